/-! THE LAW ON OUR MACHINE: printed cells; constructors, then the loop -/
set_option maxRecDepth 100000 in
theorem zlawGo (L : Nat) (f : Nat → Int) (hL : L ≤ 3072) (hf : ∀ k, -2147483648 ≤ f k ∧ f k < 2147483648) : zWp 40 tL_law (0, [some (.inr (some 0)), none, none, none], [], [.inl L], fun a k => if a = 0 then f k else 0) (fun r S1 _ => r = some (.inl 1) ∧ S1 = zSh L) := by
  have h0 : ∀ a, 1 ≤ a → ∀ k, (fun a k => if a = 0 then f k else 0 : zM) a k = 0 := fun a ha k => if_neg (by omega)
  have hr : ∀ k, (fun a k => if a = 0 then f k else 0 : zM) 0 k = f k := fun k => if_pos rfl
  generalize (fun a k => if a = 0 then f k else 0 : zM) = M at *
  refine zWp_nw (j := 1) (S2 := [.inl L, .inr (7, [some none, some none, some none, some none, some none, some none, some none, some none, some none, none, none, none, none, none])]) rfl rfl rfl (h0 1 (by decide)) ?_
  refine zWp_step rfl rfl rfl ?_
  refine zWp_call rfl rfl rfl (zSp_mono (Nat.le_of_ble_eq_true rfl) (sp_iX7_1 (L := L) h0)) (fun v S1 M1 h => ?_)
  obtain ⟨rfl, rfl, e0, hz, hC⟩ := h
  refine zWp_step rfl rfl rfl ?_
  refine zWp_nw (j := 34) (S2 := [.inl L, .inr (7, [some (some 2), some (some 9), some (some 13), some (some 18), some (some 20), some (some 22), some (some 24), some (some 26), some (some 33), none, none, none, none, none]), .inr (0, [some (some 3), some (some 4), some (some 5), some (some 6), some (some 7), some (some 8), none, none]), .inl 60, .inl 60, .inl 60, .inl 60, .inl 60, .inl 7, .inr (1, [some (some 11), some (some 12), none, none, some (some 2), some (some 10)]), .inl 1770, .inl 60, .inl 60, .inr (2, [some (some 14), some (some 15), some (some 2), some (some 9), some (some 16), some (some 17)]), .inl 60, .inl 60, .inl 60, .inl 60, .inr (4, [some (some 19), some (some 2), some (some 9)]), .inl 60, .inr (4, [some (some 21), some (some 2), some (some 9)]), .inl 60, .inr (6, [some (some 2), some (some 9), some (some 23), none]), .inl 60, .inr (5, [some (some 25), none, none, some (some 2), some (some 9)]), .inl 60, .inr (3, [some (some 2), some (some 27), some (some 28), some (some 29), some (some 30), some (some 31), some (some 32)]), .inl 16, .inl 64, .inl 16, .inl 64, .inl 60, .inl 60, .inl 60, .inr (8, [some none, some none, some none, some none, some none, none, some none, none, some none, none, some none, some none, some none, some none, some none, some none, some none, none, some none, some none, none, none, some none, some none, some none, some none, some none, some none])]) rfl rfl rfl (hz 34 (by decide)) ?_
  refine zWp_step rfl rfl rfl ?_
  refine zWp_call rfl rfl rfl (zSp_mono (Nat.le_of_ble_eq_true rfl) (sp_iX8_34 (L := L) hz)) (fun v S2 M2 h => ?_)
  obtain ⟨rfl, rfl, hk, hM⟩ := h
  have hk : ∀ a, a < 34 → M2 a = M1 a := hk
  have e0 : M1 0 = M 0 := e0
  refine zWp_step rfl rfl rfl ?_
  refine zWp_step rfl rfl rfl ?_
  refine zWp_step rfl rfl rfl ?_
  exact zWp_post (zlawLoop hL (L + 6) 0 M2 zA0 (by omega) (by omega) (zCS_fm hk hC) hM (fun k => by rw [hk 0 (by decide), e0, hr k]; exact hf k)) (fun r S3 M3 h => ⟨h.2, h.1⟩)
theorem zpure : zPure := by
  intro L f hL hf
  obtain ⟨n, r, S1, M1, hg, e1, e2⟩ := zlawGo L f hL hf
  subst e1
  subst e2
  refine ⟨n, zSh L, M1, hg, ?_, ?_⟩
  · show 57 ≤ 600001
    decide
  · show L + _ ≤ 7302250 + L
    have : ∀ x : Nat, x ≤ 7302250 → L + x ≤ 7302250 + L := fun x hx => by omega
    exact this _ (by decide)
