section ZX
variable {L : Nat} {M : zM}
abbrev zvi (x : Int) : zV := .inl x
abbrev zvr (j : Nat) : zV := .inr (some j)
abbrev zI (x : Int) : Prop := -2147483648 ≤ x ∧ x < 2147483648
theorem sp_max {x y : Int} (hx : zI x) (hy : zI y) : zf L 1 kJ9_max_7cf53 [zvi x, zvi y] M (fun v M1 => v = some (.inl (max x y)) ∧ M1 = M) := by
  refine zf_of rfl (by decide) ?_
  iterate 2 refine zr_s rfl rfl rfl ?_
  refine zr_ilt rfl hx hy (fun h => ?_) (fun h => ?_)
  · refine zr_s rfl rfl rfl ?_
    exact zr_ret rfl ⟨by rw [show max x y = y by omega], rfl⟩
  · iterate 2 refine zr_s rfl rfl rfl ?_
    exact zr_ret rfl ⟨by rw [show max x y = x by omega], rfl⟩
theorem sp_holds {x : Int} (hx : zI x) (hn : zI (M 2 6)) : zf L 1 kX0_holds [zvr 2, zvi x] M (fun v M1 => v = some (.inl (if 0 ≤ x ∧ x < M 2 6 then 1 else 0)) ∧ M1 = M) := by
  refine zf_of rfl (by decide) ?_
  refine zr_s rfl rfl rfl ?_
  refine zr_zlt rfl hx (fun h => ?_) (fun h => ?_)
  · refine zr_s rfl rfl rfl ?_
    exact zr_retz rfl (by omega) ⟨by rw [if_neg (by omega)], rfl⟩
  · iterate 3 refine zr_s rfl rfl rfl ?_
    refine zr_ige rfl hx hn (fun h => ?_) (fun h => ?_)
    · refine zr_s rfl rfl rfl ?_
      exact zr_retz rfl (by omega) ⟨by rw [if_neg (by omega)], rfl⟩
    · iterate 2 refine zr_s rfl rfl rfl ?_
      exact zr_retz rfl (by omega) ⟨by rw [if_pos (by omega)], rfl⟩
theorem sp_latencyOf {i k : Nat} (hi : i < 60) (hk : M 3 i = (k : Int)) (hk7 : k < 7) : zf L 1 kX0_latencyOf [zvr 2, zvi i] M (fun v M1 => v = some (.inl (M 8 k)) ∧ M1 = M) := by
  refine zf_of rfl (by decide) ?_
  iterate 5 refine zr_s rfl rfl rfl ?_
  refine zr_ald i rfl rfl rfl hi (by decide) ?_
  refine zr_ald k rfl rfl hk hk7 (by decide) ?_
  exact zr_ret rfl ⟨rfl, rfl⟩
end ZX
