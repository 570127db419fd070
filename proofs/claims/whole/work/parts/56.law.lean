/-! THE LAW'S LOOP (printed by wip/whole/mk56.py) -/
section ZX
variable {S : List zC} {d : Nat} {cd : List (Option zR)} {pc : Nat} {ls : List (Option zV)} {st : List zV} {M : zM} {Q : Option zV → zM → Prop}
theorem zr_ieq_same {x : Int} {off : Int} {ra rb rt : Nat} (hc : cd[pc]? = some (some (.if_icmp .eq off, ra, rb, rt))) (k : zr S d cd (ztgt pc off) ls st M Q) : zr S d cd pc ls (.inl x :: .inl x :: st) M Q := by
  refine zWp_step hc rfl (s2 := (ztgt pc off, ls, st, S, M)) ?_ k
  show some (if zw x = zw x then ztgt pc off else pc + 3, ls, st, S, M) = _
  rw [if_pos rfl]
end ZX
theorem zand15 (x : Int) : 0 ≤ zand x 15 ∧ zand x 15 ≤ 15 := by
  have h : ∀ z : Int32, 0 ≤ (z &&& 15).toInt ∧ (z &&& 15).toInt ≤ 15 := by
    intro z
    show 0 ≤ (z.toBitVec &&& 15#32).toInt ∧ (z.toBitVec &&& 15#32).toInt ≤ 15
    have e : (z.toBitVec &&& 15#32).toNat = z.toBitVec.toNat % 16 := by
      rw [BitVec.toNat_and]
      exact Nat.and_two_pow_sub_one_eq_mod _ 4
    rw [BitVec.toInt_eq_toNat_cond, e]
    split <;> omega
  exact h _
theorem zMS_eq {M M1 : zM} {A : zA} (e : ∀ a, 34 ≤ a → M1 a = M a) (h : zMS M A) : zMS M1 A := by
  obtain ⟨hI, g2, g3, g4, g5, g6, g7, g8, g9⟩ := h
  exact ⟨zMI_eq (fun q h1 _ => e q h1) hI, by rw [e 48 (by decide)]; exact g2, by rw [e 48 (by decide)]; exact g3, by rw [e 34 (by decide)]; exact g4, by rw [e 34 (by decide)]; exact g5, by rw [e 51 (by decide)]; exact g6, by rw [e 52 (by decide)]; exact g7, by rw [e 53 (by decide)]; exact g8, by rw [e 54 (by decide)]; exact g9⟩
theorem zCS_fm {M M1 : zM} {A : zA} (e : zFM M M1) (h : zCS M A) : zCS M1 A := zCS_eq (fun q hq => e q (by omega)) h
section ZX
variable {L : Nat}
set_option maxRecDepth 100000 in
theorem zlawLoop (hL : L ≤ 3072) : ∀ (t i : Nat) (M : zM) (A : zA), L + 6 ≤ i + t → i ≤ L + 5 → zCS M A → zMS M A → (∀ k, zI (M 0 k)) → zr (zSh L) 40 tL_law 18 [some (zvr 0), some (zvr 1), some (zvr 34), some (zvi i)] [] M (fun v _ => v = some (.inl 1)) := by
  intro t
  induction t with
  | zero =>
    intro i M A ht hi hC hM h0
    omega
  | succ t ih =>
    intro i M A ht hi hC hM h0
    have nxt : ∀ (N : zM) (A : zA), i + 5 < L → zCS N A → zMS N A → (∀ k, zI (N 0 k)) → zr (zSh L) 40 tL_law 526 [some (zvr 0), some (zvr 1), some (zvr 34), some (zvi i)] [] N (fun v _ => v = some (.inl 1)) := by
      intro N A hiL hCN hMN hN
      repeat refine zr_s rfl rfl rfl ?_
      refine zr_b rfl rfl ?_
      exact ih (i + 6) N A (by omega) (by omega) hCN hMN hN
    repeat refine zr_s rfl rfl rfl ?_
    refine zr_igt rfl (by omega) (by omega) (fun h => ?_) (fun h => ?_)
    · repeat refine zr_s rfl rfl rfl ?_
      exact zr_retz rfl (by omega) (rfl)
    repeat refine zr_s rfl rfl rfl ?_
    refine zr_ald i rfl rfl rfl (by omega) (by omega) ?_
    repeat refine zr_s rfl rfl rfl ?_
    have hz := zand15 (M 0 i)
    have hc : zand (M 0 i) 15 = 0 ∨ zand (M 0 i) 15 = 1 ∨ zand (M 0 i) 15 = 2 ∨ zand (M 0 i) 15 = 3 ∨ zand (M 0 i) 15 = 4 ∨ zand (M 0 i) 15 = 5 ∨ zand (M 0 i) 15 = 6 ∨ zand (M 0 i) 15 = 7 ∨ zand (M 0 i) 15 = 8 ∨ zand (M 0 i) 15 = 9 ∨ zand (M 0 i) 15 = 10 ∨ zand (M 0 i) 15 = 11 ∨ zand (M 0 i) 15 = 12 ∨ zand (M 0 i) 15 = 13 ∨ 13 < zand (M 0 i) 15 := by omega
    rcases hc with h | h | h | h | h | h | h | h | h | h | h | h | h | h | h
    · rw [h]
      refine zr_tabIn 71 rfl (by decide) (by decide) (by decide) rfl ?_
      repeat refine zr_s rfl rfl rfl ?_
      refine zr_ald (i + 1) rfl rfl (by omega) (by omega) (by omega) ?_
      repeat refine zr_s rfl rfl rfl ?_
      refine zr_ald (i + 2) rfl rfl (by omega) (by omega) (by omega) ?_
      repeat refine zr_s rfl rfl rfl ?_
      refine zr_ald (i + 3) rfl rfl (by omega) (by omega) (by omega) ?_
      repeat refine zr_s rfl rfl rfl ?_
      refine zr_ald (i + 4) rfl rfl (by omega) (by omega) (by omega) ?_
      repeat refine zr_s rfl rfl rfl ?_
      refine zr_ald (i + 5) rfl rfl (by omega) (by omega) (by omega) ?_
      refine zr_c rfl rfl rfl (zf_mono (Nat.le_of_ble_eq_true rfl) (sp_C_add hC (h0 _) (h0 _) (h0 _) (h0 _) (h0 _))) (fun v M1 hv => ?_)
      obtain ⟨rfl, hC1, hF1⟩ := hv
      have hM1 : zMS M1 A := zMS_eq hF1.2 hM
      have h01 : ∀ k, zI (M1 0 k) := fun k => by rw [hF1.1]; exact h0 k
      repeat refine zr_s rfl rfl rfl ?_
      refine zr_ald (i + 1) rfl rfl (by omega) (by omega) (by omega) ?_
      repeat refine zr_s rfl rfl rfl ?_
      refine zr_ald (i + 2) rfl rfl (by omega) (by omega) (by omega) ?_
      repeat refine zr_s rfl rfl rfl ?_
      refine zr_ald (i + 3) rfl rfl (by omega) (by omega) (by omega) ?_
      repeat refine zr_s rfl rfl rfl ?_
      refine zr_ald (i + 4) rfl rfl (by omega) (by omega) (by omega) ?_
      repeat refine zr_s rfl rfl rfl ?_
      refine zr_ald (i + 5) rfl rfl (by omega) (by omega) (by omega) ?_
      refine zr_c rfl rfl rfl (zf_mono (Nat.le_of_ble_eq_true rfl) (sp_M_add hM1 (h01 _) (h01 _) (h01 _) (h01 _) (h01 _))) (fun v M2 hv => ?_)
      obtain ⟨rfl, hM2, hF2⟩ := hv
      rw [hF1.1] at hM2 ⊢
      refine zr_ieq_same rfl ?_
      exact nxt M2 _ (by omega) (zCS_fm hF2 hC1) hM2 (fun k => by rw [hF2 0 (by decide)]; exact h01 k)
    · rw [h]
      refine zr_tabIn 134 rfl (by decide) (by decide) (by decide) rfl ?_
      repeat refine zr_s rfl rfl rfl ?_
      refine zr_ald (i + 1) rfl rfl (by omega) (by omega) (by omega) ?_
      refine zr_c rfl rfl rfl (zf_mono (Nat.le_of_ble_eq_true rfl) (sp_C_cut hC (h0 _))) (fun v M1 hv => ?_)
      obtain ⟨rfl, hC1, hF1⟩ := hv
      have hM1 : zMS M1 A := zMS_eq hF1.2 hM
      have h01 : ∀ k, zI (M1 0 k) := fun k => by rw [hF1.1]; exact h0 k
      repeat refine zr_s rfl rfl rfl ?_
      refine zr_ald (i + 1) rfl rfl (by omega) (by omega) (by omega) ?_
      refine zr_c rfl rfl rfl (zf_mono (Nat.le_of_ble_eq_true rfl) (sp_M_cut hM1 (h01 _))) (fun v M2 hv => ?_)
      obtain ⟨rfl, hM2, hF2⟩ := hv
      rw [hF1.1] at hM2 ⊢
      refine zr_ieq_same rfl ?_
      exact nxt M2 _ (by omega) (zCS_fm hF2 hC1) hM2 (fun k => by rw [hF2 0 (by decide)]; exact h01 k)
    · rw [h]
      refine zr_tabIn 157 rfl (by decide) (by decide) (by decide) rfl ?_
      repeat refine zr_s rfl rfl rfl ?_
      refine zr_ald (i + 1) rfl rfl (by omega) (by omega) (by omega) ?_
      repeat refine zr_s rfl rfl rfl ?_
      refine zr_ald (i + 2) rfl rfl (by omega) (by omega) (by omega) ?_
      refine zr_c rfl rfl rfl (zf_mono (Nat.le_of_ble_eq_true rfl) (sp_C_latency hC (h0 _) (h0 _))) (fun v M1 hv => ?_)
      obtain ⟨rfl, hC1, hF1⟩ := hv
      have hM1 : zMS M1 A := zMS_eq hF1.2 hM
      have h01 : ∀ k, zI (M1 0 k) := fun k => by rw [hF1.1]; exact h0 k
      repeat refine zr_s rfl rfl rfl ?_
      refine zr_ald (i + 1) rfl rfl (by omega) (by omega) (by omega) ?_
      repeat refine zr_s rfl rfl rfl ?_
      refine zr_ald (i + 2) rfl rfl (by omega) (by omega) (by omega) ?_
      refine zr_c rfl rfl rfl (zf_mono (Nat.le_of_ble_eq_true rfl) (sp_M_latency hM1 (h01 _) (h01 _))) (fun v M2 hv => ?_)
      obtain ⟨rfl, hM2, hF2⟩ := hv
      rw [hF1.1] at hM2 ⊢
      refine zr_ieq_same rfl ?_
      exact nxt M2 _ (by omega) (zCS_fm hF2 hC1) hM2 (fun k => by rw [hF2 0 (by decide)]; exact h01 k)
    · rw [h]
      refine zr_tabIn 190 rfl (by decide) (by decide) (by decide) rfl ?_
      repeat refine zr_s rfl rfl rfl ?_
      refine zr_ald (i + 1) rfl rfl (by omega) (by omega) (by omega) ?_
      refine zr_c rfl rfl rfl (zf_mono (Nat.le_of_ble_eq_true rfl) (sp_C_units hC (h0 _))) (fun v M1 hv => ?_)
      obtain ⟨rfl, hC1, hF1⟩ := hv
      have hM1 : zMS M1 A := zMS_eq hF1.2 hM
      have h01 : ∀ k, zI (M1 0 k) := fun k => by rw [hF1.1]; exact h0 k
      repeat refine zr_s rfl rfl rfl ?_
      refine zr_ald (i + 1) rfl rfl (by omega) (by omega) (by omega) ?_
      refine zr_c rfl rfl rfl (zf_mono (Nat.le_of_ble_eq_true rfl) (sp_M_units hM1 (h01 _))) (fun v M2 hv => ?_)
      obtain ⟨rfl, hM2, hF2⟩ := hv
      rw [hF1.1] at hM2 ⊢
      refine zr_ieq_same rfl ?_
      exact nxt M2 _ (by omega) (zCS_fm hF2 hC1) hM2 (fun k => by rw [hF2 0 (by decide)]; exact h01 k)
    · rw [h]
      refine zr_tabIn 213 rfl (by decide) (by decide) (by decide) rfl ?_
      repeat refine zr_s rfl rfl rfl ?_
      refine zr_ald (i + 1) rfl rfl (by omega) (by omega) (by omega) ?_
      repeat refine zr_s rfl rfl rfl ?_
      refine zr_ald (i + 2) rfl rfl (by omega) (by omega) (by omega) ?_
      refine zr_c rfl rfl rfl (zf_mono (Nat.le_of_ble_eq_true rfl) (sp_C_delay hC (h0 _) (h0 _))) (fun v M1 hv => ?_)
      obtain ⟨rfl, hC1, hF1⟩ := hv
      have hM1 : zMS M1 A := zMS_eq hF1.2 hM
      have h01 : ∀ k, zI (M1 0 k) := fun k => by rw [hF1.1]; exact h0 k
      repeat refine zr_s rfl rfl rfl ?_
      refine zr_ald (i + 1) rfl rfl (by omega) (by omega) (by omega) ?_
      repeat refine zr_s rfl rfl rfl ?_
      refine zr_ald (i + 2) rfl rfl (by omega) (by omega) (by omega) ?_
      refine zr_c rfl rfl rfl (zf_mono (Nat.le_of_ble_eq_true rfl) (sp_M_delay hM1 (h01 _) (h01 _))) (fun v M2 hv => ?_)
      obtain ⟨rfl, hM2, hF2⟩ := hv
      rw [hF1.1]
      refine zr_ieq_same rfl ?_
      exact nxt M2 _ (by omega) (zCS_fm hF2 hC1) hM2 (fun k => by rw [hF2 0 (by decide)]; exact h01 k)
    · rw [h]
      refine zr_tabIn 246 rfl (by decide) (by decide) (by decide) rfl ?_
      repeat refine zr_s rfl rfl rfl ?_
      refine zr_ald (i + 1) rfl rfl (by omega) (by omega) (by omega) ?_
      repeat refine zr_s rfl rfl rfl ?_
      refine zr_ald (i + 2) rfl rfl (by omega) (by omega) (by omega) ?_
      refine zr_c rfl rfl rfl (zf_mono (Nat.le_of_ble_eq_true rfl) (sp_C_about hC (h0 _) (h0 _))) (fun v M1 hv => ?_)
      obtain ⟨rfl, hC1, hF1⟩ := hv
      have hM1 : zMS M1 A := zMS_eq hF1.2 hM
      have h01 : ∀ k, zI (M1 0 k) := fun k => by rw [hF1.1]; exact h0 k
      repeat refine zr_s rfl rfl rfl ?_
      refine zr_ald (i + 1) rfl rfl (by omega) (by omega) (by omega) ?_
      repeat refine zr_s rfl rfl rfl ?_
      refine zr_ald (i + 2) rfl rfl (by omega) (by omega) (by omega) ?_
      refine zr_c rfl rfl rfl (zf_mono (Nat.le_of_ble_eq_true rfl) (sp_M_about hM1 (h01 _) (h01 _))) (fun v M2 hv => ?_)
      obtain ⟨rfl, hM2, hF2⟩ := hv
      rw [hF1.1]
      refine zr_ieq_same rfl ?_
      exact nxt M2 _ (by omega) (zCS_fm hF2 hC1) hM2 (fun k => by rw [hF2 0 (by decide)]; exact h01 k)
    · rw [h]
      refine zr_tabIn 279 rfl (by decide) (by decide) (by decide) rfl ?_
      repeat refine zr_s rfl rfl rfl ?_
      refine zr_ald (i + 1) rfl rfl (by omega) (by omega) (by omega) ?_
      refine zr_c rfl rfl rfl (zf_mono (Nat.le_of_ble_eq_true rfl) (sp_C_listed hC (h0 _))) (fun v M1 hv => ?_)
      obtain ⟨rfl, hC1, hF1⟩ := hv
      have hM1 : zMS M1 A := zMS_eq hF1.2 hM
      have h01 : ∀ k, zI (M1 0 k) := fun k => by rw [hF1.1]; exact h0 k
      repeat refine zr_s rfl rfl rfl ?_
      refine zr_ald (i + 1) rfl rfl (by omega) (by omega) (by omega) ?_
      refine zr_c rfl rfl rfl (zf_mono (Nat.le_of_ble_eq_true rfl) (sp_M_listed hM1 (h01 _))) (fun v M2 hv => ?_)
      obtain ⟨rfl, hM2, hF2⟩ := hv
      rw [hF1.1]
      refine zr_ieq_same rfl ?_
      exact nxt M2 _ (by omega) (zCS_fm hF2 hC1) hM2 (fun k => by rw [hF2 0 (by decide)]; exact h01 k)
    · rw [h]
      refine zr_tabIn 302 rfl (by decide) (by decide) (by decide) rfl ?_
      repeat refine zr_s rfl rfl rfl ?_
      refine zr_ald (i + 1) rfl rfl (by omega) (by omega) (by omega) ?_
      refine zr_c rfl rfl rfl (zf_mono (Nat.le_of_ble_eq_true rfl) (sp_C_length hC (h0 _))) (fun v M1 hv => ?_)
      obtain ⟨rfl, hC1, hF1⟩ := hv
      have hM1 : zMS M1 A := zMS_eq hF1.2 hM
      have h01 : ∀ k, zI (M1 0 k) := fun k => by rw [hF1.1]; exact h0 k
      repeat refine zr_s rfl rfl rfl ?_
      refine zr_ald (i + 1) rfl rfl (by omega) (by omega) (by omega) ?_
      refine zr_c rfl rfl rfl (zf_mono (Nat.le_of_ble_eq_true rfl) (sp_M_length hM1 (h01 _))) (fun v M2 hv => ?_)
      obtain ⟨rfl, hM2, hF2⟩ := hv
      rw [hF1.1]
      refine zr_ieq_same rfl ?_
      exact nxt M2 _ (by omega) (zCS_fm hF2 hC1) hM2 (fun k => by rw [hF2 0 (by decide)]; exact h01 k)
    · rw [h]
      refine zr_tabIn 325 rfl (by decide) (by decide) (by decide) rfl ?_
      repeat refine zr_s rfl rfl rfl ?_
      refine zr_ald (i + 1) rfl rfl (by omega) (by omega) (by omega) ?_
      repeat refine zr_s rfl rfl rfl ?_
      refine zr_ald (i + 2) rfl rfl (by omega) (by omega) (by omega) ?_
      refine zr_c rfl rfl rfl (zf_mono (Nat.le_of_ble_eq_true rfl) (sp_C_place hC (h0 _) (h0 _))) (fun v M1 hv => ?_)
      obtain ⟨rfl, hC1, hF1⟩ := hv
      have hM1 : zMS M1 A := zMS_eq hF1.2 hM
      have h01 : ∀ k, zI (M1 0 k) := fun k => by rw [hF1.1]; exact h0 k
      repeat refine zr_s rfl rfl rfl ?_
      refine zr_ald (i + 1) rfl rfl (by omega) (by omega) (by omega) ?_
      repeat refine zr_s rfl rfl rfl ?_
      refine zr_ald (i + 2) rfl rfl (by omega) (by omega) (by omega) ?_
      refine zr_c rfl rfl rfl (zf_mono (Nat.le_of_ble_eq_true rfl) (sp_M_place hM1 (h01 _) (h01 _))) (fun v M2 hv => ?_)
      obtain ⟨rfl, hM2, hF2⟩ := hv
      rw [hF1.1] at hM2 ⊢
      refine zr_ieq_same rfl ?_
      exact nxt M2 _ (by omega) (zCS_fm hF2 hC1) hM2 (fun k => by rw [hF2 0 (by decide)]; exact h01 k)
    · rw [h]
      refine zr_tabIn 358 rfl (by decide) (by decide) (by decide) rfl ?_
      repeat refine zr_s rfl rfl rfl ?_
      refine zr_c rfl rfl rfl (zf_mono (Nat.le_of_ble_eq_true rfl) (sp_C_check hC )) (fun v M1 hv => ?_)
      obtain ⟨rfl, hC1, hF1⟩ := hv
      have hM1 : zMS M1 A := zMS_eq hF1.2 hM
      have h01 : ∀ k, zI (M1 0 k) := fun k => by rw [hF1.1]; exact h0 k
      repeat refine zr_s rfl rfl rfl ?_
      refine zr_c rfl rfl rfl (zf_mono (Nat.le_of_ble_eq_true rfl) (sp_M_check hM1 )) (fun v M2 hv => ?_)
      obtain ⟨rfl, hM2, hF2⟩ := hv
      refine zr_ieq_same rfl ?_
      exact nxt M2 _ (by omega) (zCS_fm hF2 hC1) hM2 (fun k => by rw [hF2 0 (by decide)]; exact h01 k)
    · rw [h]
      refine zr_tabIn 371 rfl (by decide) (by decide) (by decide) rfl ?_
      repeat refine zr_s rfl rfl rfl ?_
      refine zr_ald (i + 1) rfl rfl (by omega) (by omega) (by omega) ?_
      refine zr_c rfl rfl rfl (zf_mono (Nat.le_of_ble_eq_true rfl) (sp_C_wrong hC (h0 _))) (fun v M1 hv => ?_)
      obtain ⟨rfl, hC1, hF1⟩ := hv
      have hM1 : zMS M1 A := zMS_eq hF1.2 hM
      have h01 : ∀ k, zI (M1 0 k) := fun k => by rw [hF1.1]; exact h0 k
      repeat refine zr_s rfl rfl rfl ?_
      refine zr_ald (i + 1) rfl rfl (by omega) (by omega) (by omega) ?_
      refine zr_c rfl rfl rfl (zf_mono (Nat.le_of_ble_eq_true rfl) (sp_M_wrong hM1 (h01 _))) (fun v M2 hv => ?_)
      obtain ⟨rfl, hM2, hF2⟩ := hv
      rw [hF1.1]
      refine zr_ieq_same rfl ?_
      exact nxt M2 _ (by omega) (zCS_fm hF2 hC1) hM2 (fun k => by rw [hF2 0 (by decide)]; exact h01 k)
    · rw [h]
      refine zr_tabIn 394 rfl (by decide) (by decide) (by decide) rfl ?_
      repeat refine zr_s rfl rfl rfl ?_
      refine zr_ald (i + 1) rfl rfl (by omega) (by omega) (by omega) ?_
      repeat refine zr_s rfl rfl rfl ?_
      refine zr_ald (i + 2) rfl rfl (by omega) (by omega) (by omega) ?_
      repeat refine zr_s rfl rfl rfl ?_
      refine zr_ald (i + 3) rfl rfl (by omega) (by omega) (by omega) ?_
      refine zr_c rfl rfl rfl (zf_mono (Nat.le_of_ble_eq_true rfl) (sp_C_given hC (h0 _) (h0 _))) (fun v M1 hv => ?_)
      obtain ⟨rfl, hC1, hF1⟩ := hv
      have hM1 : zMS M1 A := zMS_eq hF1.2 hM
      have h01 : ∀ k, zI (M1 0 k) := fun k => by rw [hF1.1]; exact h0 k
      repeat refine zr_s rfl rfl rfl ?_
      refine zr_ald (i + 1) rfl rfl (by omega) (by omega) (by omega) ?_
      repeat refine zr_s rfl rfl rfl ?_
      refine zr_ald (i + 2) rfl rfl (by omega) (by omega) (by omega) ?_
      repeat refine zr_s rfl rfl rfl ?_
      refine zr_ald (i + 3) rfl rfl (by omega) (by omega) (by omega) ?_
      refine zr_c rfl rfl rfl (zf_mono (Nat.le_of_ble_eq_true rfl) (sp_M_given hM1 (h01 _) (h01 _))) (fun v M2 hv => ?_)
      obtain ⟨rfl, hM2, hF2⟩ := hv
      rw [hF1.1] at hM2 ⊢
      refine zr_ieq_same rfl ?_
      exact nxt M2 _ (by omega) (zCS_fm hF2 hC1) hM2 (fun k => by rw [hF2 0 (by decide)]; exact h01 k)
    · rw [h]
      refine zr_tabIn 437 rfl (by decide) (by decide) (by decide) rfl ?_
      repeat refine zr_s rfl rfl rfl ?_
      refine zr_ald (i + 1) rfl rfl (by omega) (by omega) (by omega) ?_
      refine zr_c rfl rfl rfl (zf_mono (Nat.le_of_ble_eq_true rfl) (sp_C_run hC (h0 _))) (fun v M1 hv => ?_)
      obtain ⟨rfl, hC1, hF1⟩ := hv
      have hM1 : zMS M1 A := zMS_eq hF1.2 hM
      have h01 : ∀ k, zI (M1 0 k) := fun k => by rw [hF1.1]; exact h0 k
      repeat refine zr_s rfl rfl rfl ?_
      refine zr_ald (i + 1) rfl rfl (by omega) (by omega) (by omega) ?_
      refine zr_c rfl rfl rfl (zf_mono (Nat.le_of_ble_eq_true rfl) (sp_M_run hM1 (h01 _))) (fun v M2 hv => ?_)
      obtain ⟨rfl, hM2, hF2⟩ := hv
      rw [hF1.1] at hM2 ⊢
      refine zr_ieq_same rfl ?_
      exact nxt M2 _ (by omega) (zCS_fm hF2 hC1) hM2 (fun k => by rw [hF2 0 (by decide)]; exact h01 k)
    · rw [h]
      refine zr_tabIn 460 rfl (by decide) (by decide) (by decide) rfl ?_
      repeat refine zr_s rfl rfl rfl ?_
      refine zr_ald (i + 1) rfl rfl (by omega) (by omega) (by omega) ?_
      repeat refine zr_s rfl rfl rfl ?_
      refine zr_ald (i + 2) rfl rfl (by omega) (by omega) (by omega) ?_
      refine zr_c rfl rfl rfl (zf_mono (Nat.le_of_ble_eq_true rfl) (sp_C_value hC (h0 _) (h0 _))) (fun v M1 hv => ?_)
      obtain ⟨rfl, hC1, hF1⟩ := hv
      have hM1 : zMS M1 A := zMS_eq hF1.2 hM
      have h01 : ∀ k, zI (M1 0 k) := fun k => by rw [hF1.1]; exact h0 k
      repeat refine zr_s rfl rfl rfl ?_
      refine zr_ald (i + 1) rfl rfl (by omega) (by omega) (by omega) ?_
      repeat refine zr_s rfl rfl rfl ?_
      refine zr_ald (i + 2) rfl rfl (by omega) (by omega) (by omega) ?_
      refine zr_c rfl rfl rfl (zf_mono (Nat.le_of_ble_eq_true rfl) (sp_M_value hM1 (h01 _) (h01 _))) (fun v M2 hv => ?_)
      obtain ⟨rfl, hM2, hF2⟩ := hv
      rw [hF1.1]
      refine zr_ieq_same rfl ?_
      exact nxt M2 _ (by omega) (zCS_fm hF2 hC1) hM2 (fun k => by rw [hF2 0 (by decide)]; exact h01 k)
    · refine zr_tabOut rfl (by omega) (by omega) ?_
      exact nxt M A (by omega) hC hM h0
end ZX
