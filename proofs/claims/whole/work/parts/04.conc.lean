/-! WHAT A STATE OF OUR MACHINE IS IN THE HEAP: cell 0 is the script (at b, never written), cell i + 1 lies at base + i. -/
def zad (b base : Nat) : Nat → Nat
  | 0 => b
  | i + 1 => base + i
def zcv (b base : Nat) : zV → Value
  | .inl x => .int (Int32.ofInt x)
  | .inr none => .null
  | .inr (some j) => .ref (zad b base j)
def zfv (b base : Nat) (x : Int) : Option (Option Nat) → Value
  | none => .int (Int32.ofInt x)
  | some r => zcv b base (.inr r)
def zcell (cI : ClassId) (b base : Nat) (M : zM) (i : Nat) : zC → va_E
  | .inl n => .inl (cI, n, .inl (fun k => Int32.ofInt (M i k)))
  | .inr q => .inr (q.1, q.2.mapIdx (fun k t => zfv b base (M i k) t))
def zws (cI : ClassId) (b base : Nat) (S : List zC) (M : zM) : va_W := S.tail.mapIdx (fun i c => (base + i, zcell cI b base M (i + 1) c))
def zsz : zC → Nat
  | .inl n => n
  | .inr q => q.2.length
def zsl (S : List zC) : Nat := (S.map zsz).sum
theorem zcv_cat (b base : Nat) (v : zV) : (zcv b base v).category = 1 := by rcases v with x | _ | j <;> rfl
theorem zcat_sum (b base : Nat) (st : List zV) : ((st.map (zcv b base)).map fun v => v.category).sum = st.length := by
  induction st with
  | nil => rfl
  | cons v st ih => simp only [List.map_cons, List.sum_cons, ih, zcv_cat, List.length_cons]; omega
theorem zws_at (cI : ClassId) (b base : Nat) (S : List zC) (M : zM) (i : Nat) : (zws cI b base S M)[i]? = (S[i + 1]?).map (fun c => (base + i, zcell cI b base M (i + 1) c)) := by
  unfold zws
  rw [List.getElem?_mapIdx, List.getElem?_tail]
theorem zws_get {cI : ClassId} {b base : Nat} {S : List zC} {M : zM} {i : Nat} {c : zC} (h : S[i + 1]? = some c) : (zws cI b base S M)[i]? = some (base + i, zcell cI b base M (i + 1) c) := by
  rw [zws_at, h]; rfl
theorem zws_D (cI : ClassId) (b base : Nat) (S : List zC) (M : zM) : va_D (fun q => base ≤ q) (zws cI b base S M) := by
  refine ⟨fun i j p q hi hj hpq => ?_, fun k q hk => ?_⟩
  · rw [zws_at] at hi hj
    obtain ⟨c1, -, rfl⟩ := Option.map_eq_some_iff.mp hi
    obtain ⟨c2, -, rfl⟩ := Option.map_eq_some_iff.mp hj
    have hpq : base + i = base + j := hpq
    omega
  · rw [zws_at] at hk
    obtain ⟨c1, -, rfl⟩ := Option.map_eq_some_iff.mp hk
    exact Nat.le_add_right _ _
theorem zmem_lt {α : Type} {l : List α} {i : Nat} {c : α} (h : l[i]? = some c) : i < l.length := (List.getElem?_eq_some_iff.mp h).1
theorem zws_len (cI : ClassId) (b base : Nat) (S : List zC) (M : zM) : (zws cI b base S M).length = S.length - 1 := by
  unfold zws
  rw [List.length_mapIdx, List.length_tail]
theorem zcell_congr {cI : ClassId} {b base : Nat} {M1 M2 : zM} {i j : Nat} (c : zC) (h : ∀ k, M1 i k = M2 j k) : zcell cI b base M1 i c = zcell cI b base M2 j c := by
  rcases c with n | ⟨c, fs⟩
  · simp only [zcell, h]
  · simp only [zcell, h]
theorem zws_else {cI : ClassId} {b base : Nat} {S : List zC} {M1 M2 : zM} {j : Nat} (h : ∀ k, M1 (j + 1) k = M2 (j + 1) k) : (S[j + 1]?).map (fun c => (base + j, zcell cI b base M1 (j + 1) c)) = (S[j + 1]?).map (fun c => (base + j, zcell cI b base M2 (j + 1) c)) := by
  congr 1
  funext c
  rw [zcell_congr c h]
theorem zup_ne {M : zM} {i k a : Nat} {x : Int} (h : a ≠ i) (q : Nat) : zup M i k x a q = M a q := by
  unfold zup
  rw [if_neg (fun z => h z.1)]
/-- an int of an array is written -/
theorem zws_up {cI : ClassId} {b base : Nat} {S : List zC} {M : zM} {i n k : Nat} (x : Int) (h : S[i + 1]? = some (.inl n)) : zws cI b base S (zup M (i + 1) k x) = (zws cI b base S M).set i (base + i, .inl (cI, n, .inl (upd (fun k => Int32.ofInt (M (i + 1) k)) k (Int32.ofInt x)))) := by
  have hl := zmem_lt h
  refine List.ext_getElem? fun j => ?_
  rw [zws_at, List.getElem?_set, zws_len]
  by_cases hj : i = j
  · subst hj
    rw [if_pos rfl, if_pos (by omega), h]
    have e : (fun k' => Int32.ofInt (zup M (i + 1) k x (i + 1) k')) = upd (fun k => Int32.ofInt (M (i + 1) k)) k (Int32.ofInt x) := by
      funext k'
      unfold zup upd
      by_cases hk : k' = k <;> simp [hk]
    simp only [Option.map_some, zcell, e]
  · rw [if_neg hj, zws_at]
    exact zws_else (fun q => zup_ne (by omega) q)
/-- an int field is written -/
theorem zws_upf {cI : ClassId} {b base : Nat} {S : List zC} {M : zM} {i c k : Nat} {fs : List (Option (Option Nat))} (x : Int) (h : S[i + 1]? = some (.inr (c, fs))) (hk : fs[k]? = some none) : zws cI b base S (zup M (i + 1) k x) = (zws cI b base S M).set i (base + i, .inr (c, (fs.mapIdx (fun k t => zfv b base (M (i + 1) k) t)).set k (.int (Int32.ofInt x)))) := by
  have hl := zmem_lt h
  refine List.ext_getElem? fun j => ?_
  rw [zws_at, List.getElem?_set, zws_len]
  by_cases hj : i = j
  · subst hj
    rw [if_pos rfl, if_pos (by omega), h]
    have e : fs.mapIdx (fun k' t => zfv b base (zup M (i + 1) k x (i + 1) k') t) = (fs.mapIdx (fun k t => zfv b base (M (i + 1) k) t)).set k (.int (Int32.ofInt x)) := by
      refine List.ext_getElem? fun k' => ?_
      rw [List.getElem?_mapIdx, List.getElem?_set, List.length_mapIdx, List.getElem?_mapIdx]
      by_cases hkk : k = k'
      · subst hkk
        rw [if_pos rfl, if_pos (zmem_lt hk), hk]
        simp [zfv, zup]
      · rw [if_neg hkk]
        have h3 : ¬ k' = k := fun z => hkk z.symm
        simp [zup, h3]
    simp only [Option.map_some, zcell, e]
  · rw [if_neg hj, zws_at]
    exact zws_else (fun q => zup_ne (by omega) q)
/-- a reference field is written -/
theorem zws_upr {cI : ClassId} {b base : Nat} {S : List zC} {M : zM} {i c k : Nat} {fs : List (Option (Option Nat))} (r : Option Nat) (h : S[i + 1]? = some (.inr (c, fs))) (hk : k < fs.length) : zws cI b base (S.set (i + 1) (.inr (c, fs.set k (some r)))) M = (zws cI b base S M).set i (base + i, .inr (c, (fs.mapIdx (fun k t => zfv b base (M (i + 1) k) t)).set k (zcv b base (.inr r)))) := by
  have hl := zmem_lt h
  refine List.ext_getElem? fun j => ?_
  rw [zws_at, List.getElem?_set, List.getElem?_set, zws_len]
  by_cases hj : i = j
  · subst hj
    rw [if_pos rfl, if_pos rfl, if_pos hl, if_pos (by omega)]
    have e : (fs.set k (some r)).mapIdx (fun k t => zfv b base (M (i + 1) k) t) = (fs.mapIdx (fun k t => zfv b base (M (i + 1) k) t)).set k (zcv b base (.inr r)) := by
      refine List.ext_getElem? fun k' => ?_
      rw [List.getElem?_mapIdx, List.getElem?_set, List.getElem?_set, List.length_mapIdx, List.getElem?_mapIdx]
      by_cases hkk : k = k'
      · subst hkk
        rw [if_pos rfl, if_pos rfl, if_pos hk, if_pos hk]
        rfl
      · rw [if_neg hkk, if_neg hkk]
    simp only [Option.map_some, zcell, e]
  · rw [if_neg hj, if_neg (by omega), zws_at]
/-- a stretch of an array is copied -/
theorem zws_cp {cI : ClassId} {b base : Nat} {S : List zC} {M : zM} {i j n1 sp dp n : Nat} (h : S[j + 1]? = some (.inl n1)) : zws cI b base S (zcopy M (i + 1) (j + 1) sp dp n) = (zws cI b base S M).set j (base + j, .inl (cI, n1, .inl (va_cpy (fun k => Int32.ofInt (M (i + 1) k)) (fun k => Int32.ofInt (M (j + 1) k)) sp dp n))) := by
  have hl := zmem_lt h
  refine List.ext_getElem? fun q => ?_
  rw [zws_at, List.getElem?_set, zws_len]
  by_cases hj : j = q
  · subst hj
    rw [if_pos rfl, if_pos (by omega), h]
    have e : (fun k' => Int32.ofInt (zcopy M (i + 1) (j + 1) sp dp n (j + 1) k')) = va_cpy (fun k => Int32.ofInt (M (i + 1) k)) (fun k => Int32.ofInt (M (j + 1) k)) sp dp n := by
      funext k'
      unfold zcopy va_cpy
      by_cases hk : dp ≤ k' ∧ k' < dp + n
      · rw [if_pos ⟨rfl, hk⟩, if_pos hk]
      · rw [if_neg (fun z => hk z.2), if_neg hk]
    simp only [Option.map_some, zcell, e]
  · rw [if_neg hj, zws_at]
    refine zws_else (fun k => ?_)
    unfold zcopy
    rw [if_neg (fun z => hj (by omega))]
/-- a cell more -/
theorem zws_new {cI : ClassId} {b base : Nat} {S : List zC} {M : zM} (c : zC) (hS : 0 < S.length) : zws cI b base (S ++ [c]) (znew M S.length) = zws cI b base S M ++ [(base + (S.length - 1), zcell cI b base (fun _ _ => 0) 0 c)] := by
  refine List.ext_getElem? fun q => ?_
  rw [zws_at]
  by_cases hq : q + 1 < S.length
  · rw [List.getElem?_append_left hq, List.getElem?_append_left (by rw [zws_len]; omega), zws_at]
    refine zws_else (fun k => ?_)
    unfold znew
    rw [if_neg (by omega)]
  · rw [List.getElem?_append_right (by omega), List.getElem?_append_right (by rw [zws_len]; omega), zws_len]
    by_cases hq1 : q + 1 = S.length
    · rw [show q + 1 - S.length = 0 by omega, show q - (S.length - 1) = 0 by omega]
      have hq2 : q = S.length - 1 := by omega
      have e : zcell cI b base (znew M S.length) (q + 1) c = zcell cI b base (fun _ _ => 0) 0 c := zcell_congr c (fun k => by unfold znew; rw [if_pos hq1])
      simp only [List.getElem?_cons_zero, Option.map_some]
      rw [e, ← hq2]
    · have h1 : ([c] : List zC)[q + 1 - S.length]? = none := List.getElem?_eq_none (by simp; omega)
      have h2 : ([(base + (S.length - 1), zcell cI b base (fun _ _ => 0) 0 c)] : va_W)[q - (S.length - 1)]? = none := List.getElem?_eq_none (by simp; omega)
      rw [h1, h2]
      rfl
/-- the locals: what our machine knows of them is so -/
def zlr (b base : Nat) (lsA : Array Slot) (ls : List (Option zV)) : Prop := ∃ lv : List (Nat × Value), lv_has lsA ls.length lv ∧ ∀ (i : Nat) (v : zV), ls[i]? = some (some v) → (i, zcv b base v) ∈ lv
theorem zlr_at {b base : Nat} {lsA : Array Slot} {ls : List (Option zV)} (h : zlr b base lsA ls) {i : Nat} {v : zV} (hi : ls[i]? = some (some v)) : lsA[i]? = some (.val (zcv b base v)) := by
  obtain ⟨lv, h1, h2⟩ := h
  exact h1.2.2 _ (h2 i v hi)
theorem zlr_set {b base : Nat} {lsA lsB : Array Slot} {ls : List (Option zV)} {lv : List (Nat × Value)} {i : Nat} {v : zV} (h2 : ∀ (i : Nat) (v : zV), ls[i]? = some (some v) → (i, zcv b base v) ∈ lv) (h : lv_has lsB ls.length ((i, zcv b base v) :: lv.filter (fun q => !(q.1 == i) && !(q.1 + 1 == i && q.2.category == 2)))) : zlr b base lsB (ls.set i (some v)) := by
  refine ⟨_, by rw [List.length_set]; exact h, fun j u hj => ?_⟩
  rw [List.getElem?_set] at hj
  by_cases hij : i = j
  · rw [if_pos hij] at hj
    by_cases hl : i < ls.length
    · rw [if_pos hl] at hj
      have hu : v = u := Option.some.inj (Option.some.inj hj)
      subst hij; subst hu
      exact List.mem_cons_self
    · rw [if_neg hl] at hj
      cases hj
  · rw [if_neg hij] at hj
    refine List.mem_cons_of_mem _ (List.mem_filter.mpr ⟨h2 j u hj, ?_⟩)
    have h3 : ¬ j = i := fun z => hij z.symm
    simp [h3, zcv_cat]
theorem zld_spec {ls : List (Option zV)} {i : Nat} {x : Int} (h : zld ls i = some x) : ls[i]? = some (some (.inl x)) := by
  unfold zld at h
  split at h
  · rename_i y hy
    cases h
    exact hy
  · cases h
theorem zldr_spec {ls : List (Option zV)} {i x : Nat} (h : zldr ls i = some x) : ls[i]? = some (some (.inr (some x))) := by
  unfold zldr at h
  split at h
  · rename_i y hy
    cases h
    exact hy
  · cases h
theorem ztgt_ok {pc : Nat} {off : Int} (h : 0 ≤ (pc : Int) + off) : (pc : Int) + off = ((ztgt pc off : Nat) : Int) := by
  unfold ztgt
  omega
theorem zof_eq (x y : Int) : Int32.ofInt x = Int32.ofInt y ↔ zw x = zw y := Int32.toInt_inj.symm
theorem zof_eq0 (x : Int) : Int32.ofInt x = 0 ↔ zw x = 0 := by
  rw [← Int32.toInt_inj]
  rfl
theorem zof_lt (x y : Int) : Int32.ofInt x < Int32.ofInt y ↔ zw x < zw y := Int32.lt_iff_toInt_lt
theorem zof_le (x y : Int) : Int32.ofInt x ≤ Int32.ofInt y ↔ zw x ≤ zw y := Int32.le_iff_toInt_le
theorem zof_lt0 (x : Int) : Int32.ofInt x < 0 ↔ zw x < 0 := Int32.lt_iff_toInt_lt
theorem zof_gt0 (x : Int) : 0 < Int32.ofInt x ↔ 0 < zw x := Int32.lt_iff_toInt_lt
theorem zof_le0 (x : Int) : Int32.ofInt x ≤ 0 ↔ zw x ≤ 0 := Int32.le_iff_toInt_le
theorem zof_ge0 (x : Int) : 0 ≤ Int32.ofInt x ↔ 0 ≤ zw x := Int32.le_iff_toInt_le
theorem zvp_in {i : Int} {n : Nat} (h : 0 ≤ zw i ∧ zw i < n) : vp_in (Int32.ofInt i) n := vp_in_iff.mpr h
