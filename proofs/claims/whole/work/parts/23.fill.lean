/-! Arrays.fill, Math.floorMod -/
def zfl (M : zM) (j i : Nat) (v : Int) : zM := fun a b => if a = j ∧ b < i then v else M a b
theorem zfl_0 (M : zM) (j : Nat) (v : Int) : zfl M j 0 v = M := by
  funext a b
  unfold zfl
  rw [if_neg (by omega)]
theorem zfl_s (M : zM) (j i : Nat) (v : Int) : zup (zfl M j i v) j i v = zfl M j (i + 1) v := by
  funext a b
  unfold zup zfl
  by_cases h1 : a = j ∧ b = i
  · rw [if_pos h1, if_pos ⟨h1.1, by omega⟩]
  · rw [if_neg h1]
    by_cases h2 : a = j ∧ b < i
    · rw [if_pos h2, if_pos ⟨h2.1, by omega⟩]
    · rw [if_neg h2, if_neg (by omega)]
section ZX
variable {S : List zC} {M : zM}
theorem sp_fill {j n : Nat} {x : Int} (hS : S[j + 1]? = some (.inl n)) (hn : n ≤ 65536) : zf S 1 kJ7_fill_53178 [zvr (j + 1), zvi x] M (fun v M1 => v = none ∧ M1 = zfl M (j + 1) n x) := by
  refine zf_of rfl (Nat.le_of_ble_eq_true rfl) ?_
  have hlen : zr S 0 tJ7_fill_53178 3 [some (zvr (j + 1)), some (zvi x), some (zvi 0), none] [zvr (j + 1)] M (fun v M1 => v = none ∧ M1 = zfl M (j + 1) n x) := by
    refine zr_s (M2 := M) (pc2 := 4) (ls2 := [some (zvr (j + 1)), some (zvi x), some (zvi 0), none]) (st2 := [zvi (n : Int)]) rfl rfl ?_ ?_
    · simp only [zstep, hS]
    repeat refine zr_t 5 rfl rfl rfl rfl ?_
    have loop : ∀ (k i : Nat), i + k = n → zr S 0 tJ7_fill_53178 5 [some (zvr (j + 1)), some (zvi x), some (zvi (i : Int)), some (zvi (n : Int))] [] (zfl M (j + 1) i x) (fun v M1 => v = none ∧ M1 = zfl M (j + 1) n x) := by
      intro k
      induction k with
      | zero =>
        intro i hi
        repeat refine zr_s rfl rfl rfl ?_
        refine zr_ige rfl (by omega) (by omega) (fun h => ?_) (fun h => by omega)
        repeat refine zr_s rfl rfl rfl ?_
        exact zr_retv rfl (⟨rfl, by rw [show i = n by omega]⟩)
      | succ k ih =>
        intro i hi
        repeat refine zr_s rfl rfl rfl ?_
        refine zr_ige rfl (by omega) (by omega) (fun h => by omega) (fun h => ?_)
        repeat refine zr_s rfl rfl rfl ?_
        refine zr_ast i rfl hS rfl (by omega) (by omega) ?_
        rw [zfl_s]
        repeat refine zr_s rfl rfl rfl ?_
        refine zr_b rfl rfl ?_
        exact ih (i + 1) (by omega)
    have h0 := loop n 0 (by omega)
    rw [zfl_0] at h0
    exact h0
  repeat refine zr_t 3 rfl rfl rfl rfl ?_
  exact hlen
theorem zto_I (z : Int32) : zI z.toInt := ⟨Int32.le_toInt z, Int32.toInt_lt z⟩
theorem zw_I (x : Int) : zI (zw x) := zto_I _
theorem zx64 (x : Int) : zxor x 64 < 0 ↔ zw x < 0 := by
  have h1 : ∀ z : Int32, (z.toInt < 0) ↔ z.toBitVec.msb = true := by
    intro z
    rw [BitVec.msb_eq_toInt, decide_eq_true_eq]
    rfl
  unfold zxor zw
  rw [h1, h1, Int32.toBitVec_xor, BitVec.msb_xor]
  have h2 : (Int32.ofInt 64).toBitVec.msb = false := by decide
  rw [h2, Bool.xor_false]
theorem zrem64 (x : Int) : zrem x 64 = (zw x).tmod 64 := rem_toInt (Int32.ofInt x) (Int32.ofInt 64)
theorem sp_floorMod {x : Int} : zf S 1 kJ9_floorMod_7cf53 [zvi x, zvi 64] M (fun v M1 => v = some (.inl (zw x % 64)) ∧ M1 = M) := by
  refine zf_of rfl (Nat.le_of_ble_eq_true rfl) ?_
  iterate 2 refine zr_s rfl rfl rfl ?_
  refine zr_s (M2 := M) (pc2 := 3) (ls2 := [some (zvi x), some (zvi 64), none]) (st2 := [zvi (zrem x 64)]) rfl rfl rfl ?_
  rw [zrem64]
  have hb := tmod_bounds (a := zw x) (M := 64) (by decide)
  have h1 := Int.tmod_eq_emod (a := zw x) (b := 64)
  have h2 := Int.emod_nonneg (zw x) (b := 64) (by decide)
  have h3 := Int.emod_lt_of_pos (zw x) (b := 64) (by decide)
  have hr : 0 ≤ zw x → 0 ≤ (zw x).tmod 64 := fun h => Int.tmod_nonneg _ h
  have hr2 : (zw x).tmod 64 = if 0 ≤ zw x ∨ 64 ∣ zw x then zw x % 64 else zw x % 64 - 64 := by
    rw [h1]
    split <;> simp
  have hdv : 64 ∣ zw x ↔ zw x % 64 = 0 := Int.dvd_iff_emod_eq_zero
  generalize (zw x).tmod 64 = r at hb hr hr2 ⊢
  have hx1 := zx64 x
  repeat refine zr_s rfl rfl rfl ?_
  refine zr_zge rfl (zto_I _) (fun h => ?_) (fun h => ?_)
  · repeat refine zr_s rfl rfl rfl ?_
    refine zr_ret rfl ⟨?_, rfl⟩
    rw [if_pos (Or.inl (by omega))] at hr2
    rw [hr2]
  · repeat refine zr_s rfl rfl rfl ?_
    refine zr_zeq rfl (by omega) (fun h4 => ?_) (fun h4 => ?_)
    · repeat refine zr_s rfl rfl rfl ?_
      refine zr_ret rfl ⟨?_, rfl⟩
      have : r = zw x % 64 := by
        split at hr2
        · exact hr2
        · omega
      rw [this]
    · repeat refine zr_s rfl rfl rfl ?_
      refine zr_ret rfl ⟨?_, rfl⟩
      have : r + 64 = zw x % 64 := by
        split at hr2
        · rename_i h5
          rw [hdv] at h5
          omega
        · omega
      rw [this]
end ZX
