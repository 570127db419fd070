/-! SMALL METHODS: Math, Arrays, and the tests of kinds and registers -/
abbrev zvi (x : Int) : zV := .inl x
abbrev zvr (j : Nat) : zV := .inr (some j)
abbrev zI (x : Int) : Prop := -2147483648 ≤ x ∧ x < 2147483648
/-- a truth value as a number -/
def zb (p : Bool) : Int := if p then 1 else 0
theorem zb_01 (p : Bool) : zb p = 0 ∨ zb p = 1 := by cases p <;> simp [zb]
theorem zb_t {p : Bool} (h : p = true) : zb p = 1 := by rw [h]; rfl
theorem zb_f {p : Bool} (h : p = false) : zb p = 0 := by rw [h]; rfl
theorem zb_I (p : Bool) : zI (zb p) := by cases p <;> decide
section ZX
variable {S : List zC} {M : zM}
theorem sp_max {x y : Int} (hx : zI x) (hy : zI y) : zf S 1 kJ9_max_7cf53 [zvi x, zvi y] M (fun v M1 => v = some (.inl (max x y)) ∧ M1 = M) := by
  refine zf_of rfl (Nat.le_of_ble_eq_true rfl) ?_
  repeat refine zr_s rfl rfl rfl ?_
  refine zr_ilt rfl hx hy (fun h => ?_) (fun h => ?_)
  · repeat refine zr_s rfl rfl rfl ?_
    exact zr_ret rfl (⟨by rw [show max x y = y by omega], rfl⟩)
  · repeat refine zr_s rfl rfl rfl ?_
    exact zr_ret rfl (⟨by rw [show max x y = x by omega], rfl⟩)
theorem sp_min {x y : Int} (hx : zI x) (hy : zI y) : zf S 1 kJ9_min_7cf53 [zvi x, zvi y] M (fun v M1 => v = some (.inl (min x y)) ∧ M1 = M) := by
  refine zf_of rfl (Nat.le_of_ble_eq_true rfl) ?_
  repeat refine zr_s rfl rfl rfl ?_
  refine zr_igt rfl hx hy (fun h => ?_) (fun h => ?_)
  · repeat refine zr_s rfl rfl rfl ?_
    exact zr_ret rfl (⟨by rw [show min x y = y by omega], rfl⟩)
  · repeat refine zr_s rfl rfl rfl ?_
    exact zr_ret rfl (⟨by rw [show min x y = x by omega], rfl⟩)
theorem sp_isKind {x : Int} (hx : zI x) : zf S 1 kX7_isKind [zvi x] M (fun v M1 => v = some (.inl (zb (decide (0 ≤ x ∧ x < 7)))) ∧ M1 = M) := by
  refine zf_of rfl (Nat.le_of_ble_eq_true rfl) ?_
  repeat refine zr_s rfl rfl rfl ?_
  refine zr_zlt rfl hx (fun h => ?_) (fun h => ?_)
  · repeat refine zr_s rfl rfl rfl ?_
    exact zr_retz rfl (by omega) (⟨by rw [zb_f (by simp; omega)], rfl⟩)
  · repeat refine zr_s rfl rfl rfl ?_
    refine zr_ige rfl hx (by decide) (fun h => ?_) (fun h => ?_)
    · repeat refine zr_s rfl rfl rfl ?_
      exact zr_retz rfl (by omega) (⟨by rw [zb_f (by simp; omega)], rfl⟩)
    · repeat refine zr_s rfl rfl rfl ?_
      exact zr_retz rfl (by omega) (⟨by rw [zb_t (by simp; omega)], rfl⟩)
theorem sp_isRegister {x : Int} (hx : zI x) : zf S 1 kX7_isRegister [zvi x] M (fun v M1 => v = some (.inl (zb (decide (0 ≤ x ∧ x < 16)))) ∧ M1 = M) := by
  refine zf_of rfl (Nat.le_of_ble_eq_true rfl) ?_
  repeat refine zr_s rfl rfl rfl ?_
  refine zr_zlt rfl hx (fun h => ?_) (fun h => ?_)
  · repeat refine zr_s rfl rfl rfl ?_
    exact zr_retz rfl (by omega) (⟨by rw [zb_f (by simp; omega)], rfl⟩)
  · repeat refine zr_s rfl rfl rfl ?_
    refine zr_ige rfl hx (by decide) (fun h => ?_) (fun h => ?_)
    · repeat refine zr_s rfl rfl rfl ?_
      exact zr_retz rfl (by omega) (⟨by rw [zb_f (by simp; omega)], rfl⟩)
    · repeat refine zr_s rfl rfl rfl ?_
      exact zr_retz rfl (by omega) (⟨by rw [zb_t (by simp; omega)], rfl⟩)
theorem sp_isRegisterM {x : Int} (hx : zI x) : zf S 1 kX8_isRegister [zvi x] M (fun v M1 => v = some (.inl (zb (decide (0 ≤ x ∧ x < 16)))) ∧ M1 = M) := by
  refine zf_of rfl (Nat.le_of_ble_eq_true rfl) ?_
  repeat refine zr_s rfl rfl rfl ?_
  refine zr_zlt rfl hx (fun h => ?_) (fun h => ?_)
  · repeat refine zr_s rfl rfl rfl ?_
    exact zr_retz rfl (by omega) (⟨by rw [zb_f (by simp; omega)], rfl⟩)
  · repeat refine zr_s rfl rfl rfl ?_
    refine zr_ige rfl hx (by decide) (fun h => ?_) (fun h => ?_)
    · repeat refine zr_s rfl rfl rfl ?_
      exact zr_retz rfl (by omega) (⟨by rw [zb_f (by simp; omega)], rfl⟩)
    · repeat refine zr_s rfl rfl rfl ?_
      exact zr_retz rfl (by omega) (⟨by rw [zb_t (by simp; omega)], rfl⟩)
theorem sp_namesTarget {x : Int} (hx : zI x) : zf S 1 kX7_namesTarget [zvi x] M (fun v M1 => v = some (.inl (zb (decide (x ≠ 6)))) ∧ M1 = M) := by
  refine zf_of rfl (Nat.le_of_ble_eq_true rfl) ?_
  repeat refine zr_s rfl rfl rfl ?_
  refine zr_ieq rfl hx (by decide) (fun h => ?_) (fun h => ?_)
  · repeat refine zr_s rfl rfl rfl ?_
    exact zr_retz rfl (by omega) (⟨by rw [zb_f (by simp; omega)], rfl⟩)
  · repeat refine zr_s rfl rfl rfl ?_
    exact zr_retz rfl (by omega) (⟨by rw [zb_t (by simp; omega)], rfl⟩)
theorem sp_namesFirst {x : Int} (hx : zI x) : zf S 1 kX7_namesFirst [zvi x] M (fun v M1 => v = some (.inl (zb (decide (x ≠ 0)))) ∧ M1 = M) := by
  refine zf_of rfl (Nat.le_of_ble_eq_true rfl) ?_
  repeat refine zr_s rfl rfl rfl ?_
  refine zr_zeq rfl hx (fun h => ?_) (fun h => ?_)
  · repeat refine zr_s rfl rfl rfl ?_
    exact zr_retz rfl (by omega) (⟨by rw [zb_f (by simp; omega)], rfl⟩)
  · repeat refine zr_s rfl rfl rfl ?_
    exact zr_retz rfl (by omega) (⟨by rw [zb_t (by simp; omega)], rfl⟩)
theorem sp_namesSecond {x : Int} (hx : zI x) : zf S 1 kX7_namesSecond [zvi x] M (fun v M1 => v = some (.inl (zb (decide (x ≠ 0 ∧ x ≠ 5)))) ∧ M1 = M) := by
  refine zf_of rfl (Nat.le_of_ble_eq_true rfl) ?_
  repeat refine zr_s rfl rfl rfl ?_
  refine zr_zeq rfl hx (fun h => ?_) (fun h => ?_)
  · repeat refine zr_s rfl rfl rfl ?_
    exact zr_retz rfl (by omega) (⟨by rw [zb_f (by simp; omega)], rfl⟩)
  · repeat refine zr_s rfl rfl rfl ?_
    refine zr_ieq rfl hx (by decide) (fun h => ?_) (fun h => ?_)
    · repeat refine zr_s rfl rfl rfl ?_
      exact zr_retz rfl (by omega) (⟨by rw [zb_f (by simp; omega)], rfl⟩)
    · repeat refine zr_s rfl rfl rfl ?_
      exact zr_retz rfl (by omega) (⟨by rw [zb_t (by simp; omega)], rfl⟩)
end ZX
