/-! ONE STEP: arrays, new cells, Object's constructor, arraycopy -/
section ZV
variable {p : Program} {l : Launch} {e : Env} {R : Room} {s : State} {m : MethodId} {args : Array Value} {below : List Frame} {meth : Method} {c : Code} {Q : State → Prop} {H : Heap} {locs : List Loc} {cells slots : Nat}
variable {E : zE} {D : va_G} {cI : ClassId} {b base L : Nat} {xs : Nat → Int32} {n0 z0 pc ra rb rt : Nat} {ls : List (Option zV)} {st : List zV} {S : List zC} {M : zM} {s2 : zS} {lsA : Array Slot}
theorem zS0_at {n : Nat} (h : S.head? = some (.inl L)) (h1 : S[0]? = some (.inl n)) : n = L := by
  rcases S with _ | ⟨s0, S⟩
  · cases h
  · cases h
    cases h1
    rfl
theorem zs_iaload (X : zCx p s m args meth c E D cI b base L xs n0) (hw : zok E pc (.iaload, ra, rb, rt) = true) (hs : zstep zdef (.iaload, ra, rb, rt) (pc, ls, st, S, M) = some s2) (F : zFt D cI b base L xs s ls S M H locs lsA) (hc : cells + n0 = S.length) (hz : slots + z0 = zsl S) (kk : zKK p l e R s m args below meth c Q D cI b base L xs n0 z0 s2) : W p l e R s m args below meth c H locs cells slots Q (F0 m pc lsA (st.map (zcv b base))) := by
  obtain ⟨hx, hb, hml, hown, hts, hname, hK, hX, hbb, hsz, hn0, hN⟩ := X
  obtain ⟨hl, hP, hS, hS0, hM0⟩ := F
  have hd : decode E.2.1 pc = .ok (.iaload, 1) := of_decide_eq_true hw
  rcases st with _ | ⟨i | i, _ | ⟨y | _ | j, st⟩⟩
  · cases hs
  · cases hs
  · cases hs
  · cases hs
  rotate_left
  · cases hs
  · cases hs
  · cases hs
  · cases hs
  cases hS1 : S[j]? with
  | none => simp [zstep, hS1] at hs
  | some cc =>
    rcases cc with n | ⟨ci, fs⟩
    · by_cases hi : 0 ≤ zw i ∧ zw i < n
      · simp only [zstep, hS1, if_pos hi, Option.some.injEq] at hs
        subst hs
        rcases j with _ | j
        · have hn := zS0_at hS0 hS1
          subst hn
          refine va_sld (A := fun q => base ≤ q) hx hb hX (by omega) (by omega) hS (zvp_in hi) hd ?_
          have hk : (Int32.ofInt i).toNatClampNeg < n := by
            show (zw i).toNat < n
            omega
          rw [← hM0 _ hk]
          exact kk H locs lsA cells slots ⟨hl, hP, hS, hS0, hM0⟩ hc hz
        · have he := zws_get (cI := cI) (b := b) (base := base) (M := M) hS1
          exact va_iald hx hb hK hP j 0 he rfl (zvp_in hi) hd (kk H locs lsA cells slots ⟨hl, hP, hS, hS0, hM0⟩ hc hz)
      · simp only [zstep, hS1, if_neg hi] at hs
        cases hs
    · simp [zstep, hS1] at hs
theorem zs_iastore (X : zCx p s m args meth c E D cI b base L xs n0) (hw : zok E pc (.iastore, ra, rb, rt) = true) (hs : zstep zdef (.iastore, ra, rb, rt) (pc, ls, st, S, M) = some s2) (F : zFt D cI b base L xs s ls S M H locs lsA) (hc : cells + n0 = S.length) (hz : slots + z0 = zsl S) (kk : zKK p l e R s m args below meth c Q D cI b base L xs n0 z0 s2) : W p l e R s m args below meth c H locs cells slots Q (F0 m pc lsA (st.map (zcv b base))) := by
  obtain ⟨hx, hb, hml, hown, hts, hname, hK, hX, hbb, hsz, hn0, hN⟩ := X
  obtain ⟨hl, hP, hS, hS0, hM0⟩ := F
  have hd : decode E.2.1 pc = .ok (.iastore, 1) := of_decide_eq_true hw
  have hD := zws_D cI b base S M
  rcases st with _ | ⟨x | x, st⟩
  · cases hs
  rotate_left
  · cases hs
  rcases st with _ | ⟨i | i, _ | ⟨y | _ | j, st⟩⟩
  · cases hs
  · cases hs
  · cases hs
  · cases hs
  rotate_left
  · cases hs
  · cases hs
  · cases hs
  · cases hs
  rcases j with _ | j
  · simp [zstep] at hs
  cases hS1 : S[j + 1]? with
  | none => simp [zstep, hS1] at hs
  | some cc =>
    rcases cc with n | ⟨ci, fs⟩
    · by_cases hi : 0 ≤ zw i ∧ zw i < n
      · simp only [zstep, hS1, if_pos hi, Option.some.injEq] at hs
        subst hs
        have he := zws_get (cI := cI) (b := b) (base := base) (M := M) hS1
        refine va_iast hx hb hK hP hD hS j 0 he rfl (zvp_in hi) hd (fun H1 locs1 h1 h2 h3 => ?_)
        have e := zws_up (cI := cI) (b := b) (base := base) (M := M) (k := (zw i).toNat) x hS1
        have h1 : va_P D vwCl (zws cI b base S (zup M (j + 1) (zw i).toNat x)) H1 := by rw [e]; exact h1
        exact kk H1 locs1 lsA cells slots ⟨hl, h1, h3, hS0, zM0_up (M := M) (j := j) (k := (zw i).toNat) (x := x) hM0⟩ hc hz
      · simp only [zstep, hS1, if_neg hi] at hs
        cases hs
    · simp [zstep, hS1] at hs
theorem zs_arraylength (X : zCx p s m args meth c E D cI b base L xs n0) (hw : zok E pc (.arraylength, ra, rb, rt) = true) (hs : zstep zdef (.arraylength, ra, rb, rt) (pc, ls, st, S, M) = some s2) (F : zFt D cI b base L xs s ls S M H locs lsA) (hc : cells + n0 = S.length) (hz : slots + z0 = zsl S) (kk : zKK p l e R s m args below meth c Q D cI b base L xs n0 z0 s2) : W p l e R s m args below meth c H locs cells slots Q (F0 m pc lsA (st.map (zcv b base))) := by
  obtain ⟨hx, hb, hml, hown, hts, hname, hK, hX, hbb, hsz, hn0, hN⟩ := X
  obtain ⟨hl, hP, hS, hS0, hM0⟩ := F
  have hd : decode E.2.1 pc = .ok (.arraylength, 1) := of_decide_eq_true hw
  rcases st with _ | ⟨y | _ | j, st⟩
  · cases hs
  · cases hs
  · cases hs
  cases hS1 : S[j]? with
  | none => simp [zstep, hS1] at hs
  | some cc =>
    rcases cc with n | ⟨ci, fs⟩
    · simp only [zstep, hS1, Option.some.injEq] at hs
      subst hs
      have hq := kk H locs lsA cells slots ⟨hl, hP, hS, hS0, hM0⟩ hc hz
      rcases j with _ | j
      · have hn := zS0_at hS0 hS1
        subst hn
        refine va_slen (b := b) (A := fun q => base ≤ q) hx hb hX (by omega) (by omega) hS hd ?_
        rw [← Int32.ofInt_eq_ofNat]
        exact hq
      · have he := zws_get (cI := cI) (b := b) (base := base) (M := M) hS1
        exact va_alen hx hb hK hP j 0 he rfl (Int32.ofInt_eq_ofNat).symm hd hq
    · simp [zstep, hS1] at hs
theorem zhead_app {c0 : zC} (h : S.head? = some (.inl L)) : (S ++ [c0]).head? = some (.inl L) := by
  rcases S with _ | ⟨s0, S⟩
  · cases h
  · exact h
theorem zlen_pos (h : S.head? = some (.inl L)) : 0 < S.length := by
  rcases S with _ | ⟨s0, S⟩
  · cases h
  · simp
theorem zsl_app (S : List zC) (c0 : zC) : zsl (S ++ [c0]) = zsl S + zsz c0 := by
  simp [zsl]
theorem zM0_new {M : zM} {n : Nat} (hn : 0 < n) (h : ∀ k, k < L → Int32.ofInt (M 0 k) = xs k) : ∀ q, q < L → Int32.ofInt (znew M n 0 q) = xs q := by
  intro q hq
  unfold znew
  rw [if_neg (by omega)]
  exact h q hq
theorem zsof_len (c : Nat) : (zsof zdef c).length = (zdef c).length := by simp [zsof]
theorem zs_new {idx : Nat} (X : zCx p s m args meth c E D cI b base L xs n0) (hw : zok E pc (.new idx, ra, rb, rt) = true) (hs : zstep zdef (.new idx, ra, rb, rt) (pc, ls, st, S, M) = some s2) (F : zFt D cI b base L xs s ls S M H locs lsA) (hc : cells + n0 = S.length) (hz : slots + z0 = zsl S) (hRc : s2.2.2.2.1.length ≤ R.cells + n0) (hRz : zsl s2.2.2.2.1 ≤ R.slots + z0) (kk : zKK p l e R s m args below meth c Q D cI b base L xs n0 z0 s2) : W p l e R s m args below meth c H locs cells slots Q (F0 m pc lsA (st.map (zcv b base))) := by
  obtain ⟨hx, hb, hml, hown, hts, hname, hK, hX, hbb, hsz, hn0, hN⟩ := X
  obtain ⟨hl, hP, hS, hS0, hM0⟩ := F
  obtain ⟨hd, hw⟩ := (Bool.and_eq_true _ _).mp hw
  have hd : decode E.2.1 pc = .ok (.new idx, 3) := of_decide_eq_true hd
  cases hs
  have hpos := zlen_pos hS0
  refine zW_size (fun h1 h2 => ?_)
  have hH := zsize hP hsz hn0 hc h1 h2
  cases hq : vwCl[ra]? with
  | none => rw [hq] at hw; cases hw
  | some q =>
    rw [hq] at hw
    have hcl := hts _ (zin_spec hw)
    obtain ⟨hdl, hdv⟩ := zdefault ra q hq zdf_ok
    have hza : ra < zci.length := by
      have h3 := zmem_lt hq
      exact h3
    have hzi := List.all_eq_true.mp zci_ok (q, zci[ra]) (List.mem_of_getElem? (i := ra) (by rw [List.getElem?_zip_eq_some]; exact ⟨hq, List.getElem?_eq_getElem hza⟩))
    obtain ⟨hi1, hi2⟩ := (Bool.and_eq_true _ _).mp hzi
    have hi1 : zin zci[ra].1 (.instantiable q.1 q.2.2) = true := hi1
    have hi2 : zin zci[ra].2 (.initialized q.1) = true := hi2
    have hKn := hK.1 ra q hq
    have hsl : zsz (.inr (ra, zsof zdef ra)) = q.2.2 := by
      show (zsof zdef ra).length = q.2.2
      rw [zsof_len, hdl]
    have hRc : (S ++ [(.inr (ra, zsof zdef ra) : zC)]).length ≤ R.cells + n0 := hRc
    have hRz : zsl (S ++ [(.inr (ra, zsof zdef ra) : zC)]) ≤ R.slots + z0 := hRz
    rw [List.length_append, List.length_singleton] at hRc
    rw [zsl_app, hsl] at hRz
    refine W.newcK (g := F0 m pc lsA (st.map (zcv b base))) hx hb hown hcl (hts _ (zin_spec hi1)) (hts _ (zin_spec hi2)) rfl hd (by omega) (by omega) hKn.2.1 rfl fun H1 kC hkC e1 z1 o1 => ?_
    have hk : ∀ (k : Nat) (x : Nat × va_E), (zws cI b base S M)[k]? = some x → H1[x.1]? = H[x.1]? := fun k x hx => o1 x.1 ((hP k x hx).lt)
    have hP1 : va_P D vwCl (zws cI b base S M ++ [(base + (S.length - 1), zcell cI b base (fun _ _ => 0) 0 (.inr (ra, zsof zdef ra)))]) H1 := by
      refine (hP.kept hk).app (fun k x hx => ?_)
      have hz : k < 1 := (List.getElem?_eq_some_iff.mp hx).1
      rw [show k = 0 by omega] at hx
      cases hx
      refine ⟨q, hq, ?_⟩
      show t_OB (base + (S.length - 1)) (D.1 ra) q.2.2 (D.2 ra) H1 _
      rw [show base + (S.length - 1) = H.size by omega]
      refine (u_born (ztyp ra) hts (zu_all ra q hq) hKn hkC e1 (zty_all ra q hq)).to (fun j hj => ?_)
      rw [hdv j hj]
      show _ = (List.mapIdx (fun k t => zfv b base 0 t) (zsof zdef ra)).getD j Value.null
      rw [List.getD_eq_getElem?_getD, List.getD_eq_getElem?_getD, List.getElem?_mapIdx]
      unfold zsof
      rw [List.getElem?_map]
      try rw [List.getD_eq_getElem?_getD]
      have hj2 : j < (zdef ra).length := by omega
      rw [List.getElem?_eq_getElem hj2]
      cases (zdef ra)[j] <;> rfl
    rw [← zws_new (.inr (ra, zsof zdef ra)) hpos] at hP1
    have hS2 : va_S (fun q => base ≤ q) s.heap H1 locs := ⟨Nat.le_trans hS.1 (by omega), fun x h1 h2 => (o1 x (Nat.lt_of_lt_of_le h1 hS.1)).trans (hS.2.1 x h1 h2), hS.2.2⟩
    have hq2 := kk H1 locs lsA (cells + 1) (slots + q.2.2) ⟨hl, hP1, hS2, zhead_app hS0, zM0_new hpos hM0⟩ (by show cells + 1 + n0 = (S ++ [_]).length; rw [List.length_append, List.length_singleton]; omega) (by show slots + q.2.2 + z0 = zsl (S ++ [_]); rw [zsl_app, hsl]; omega)
    have ea : zcv b base (.inr (some S.length)) = .ref H.size := by
      show Value.ref (zad b base S.length) = _
      obtain ⟨n, hn⟩ : ∃ n, S.length = n + 1 := ⟨S.length - 1, by omega⟩
      rw [hn]
      show Value.ref (base + n) = _
      rw [show base + n = H.size by omega]
    have hq2 : W p l e R s m args below meth c H1 locs (cells + 1) (slots + q.2.2) Q (F0 m (pc + 3) lsA (zcv b base (.inr (some S.length)) :: st.map (zcv b base))) := hq2
    rw [ea] at hq2
    exact hq2
theorem zcl_eq (x : Int) : (Int32.ofInt x).toNatClampNeg = (zw x).toNat := rfl
theorem zarr_int : newarray.typeOf ArrayType.int = FieldType.int := rfl
theorem zcb_int : componentBytes FieldType.int = 4 := rfl
theorem zdv_int : defaultValue FieldType.int = Value.int 0 := rfl
theorem zs_newarray {t : ArrayType} (X : zCx p s m args meth c E D cI b base L xs n0) (hw : zok E pc (.newarray t, ra, rb, rt) = true) (hs : zstep zdef (.newarray t, ra, rb, rt) (pc, ls, st, S, M) = some s2) (F : zFt D cI b base L xs s ls S M H locs lsA) (hc : cells + n0 = S.length) (hz : slots + z0 = zsl S) (hRc : s2.2.2.2.1.length ≤ R.cells + n0) (hRz : zsl s2.2.2.2.1 ≤ R.slots + z0) (kk : zKK p l e R s m args below meth c Q D cI b base L xs n0 z0 s2) : W p l e R s m args below meth c H locs cells slots Q (F0 m pc lsA (st.map (zcv b base))) := by
  obtain ⟨hx, hb, hml, hown, hts, hname, hK, hX, hbb, hsz, hn0, hN⟩ := X
  obtain ⟨hl, hP, hS, hS0, hM0⟩ := F
  obtain ⟨hd, hw⟩ := (Bool.and_eq_true _ _).mp hw
  have hd : decode E.2.1 pc = .ok (.newarray t, 2) := of_decide_eq_true hd
  have ht : t = .int := of_decide_eq_true hw
  subst ht
  have hpos := zlen_pos hS0
  rcases st with _ | ⟨x | x, st⟩
  · cases hs
  rotate_left
  · cases hs
  have hs : (if 0 ≤ zw x ∧ zw x ≤ 65536 then some (pc + 2, ls, .inr (some S.length) :: st, S ++ [.inl (zw x).toNat], znew M S.length) else none) = some s2 := hs
  by_cases hxx : 0 ≤ zw x ∧ zw x ≤ 65536
  · rw [if_pos hxx] at hs
    cases hs
    refine zW_size (fun h1 h2 => ?_)
    have hH := zsize hP hsz hn0 hc h1 h2
    have hz0 := zx_ok
    simp only [Bool.and_eq_true] at hz0
    have hRc : (S ++ [(.inl (zw x).toNat : zC)]).length ≤ R.cells + n0 := hRc
    have hRz : zsl (S ++ [(.inl (zw x).toNat : zC)]) ≤ R.slots + z0 := hRz
    rw [List.length_append, List.length_singleton] at hRc
    rw [zsl_app] at hRz
    have harr : (Cond.arrayClass (newarray.typeOf ArrayType.int)).before args s = true := by rw [zarr_int]; exact hts _ (zin_spec hz0.1.1.1.1)
    have hby : (zw x).toNat * componentBytes (newarray.typeOf ArrayType.int) ≤ 536870912 := by rw [zarr_int, zcb_int]; omega
    have hng : ¬ Int32.ofInt x < 0 := fun z => by have := (zof_lt0 x).mp z; omega
    have hcl := zcl_eq x
    have hR1 : cells + 1 ≤ R.cells := by omega
    have hR2 : slots + (zw x).toNat ≤ R.slots := by
      have h3 : zsz (.inl (zw x).toNat) = (zw x).toNat := rfl
      rw [h3] at hRz
      omega
    show W p l e R s m args below meth c H locs cells slots Q (F0 m pc lsA (.int (Int32.ofInt x) :: st.map (zcv b base)))
    refine va_newaK (g := F0 m pc lsA (.int (Int32.ofInt x) :: st.map (zcv b base))) hx hb harr rfl hd rfl hng hcl hby hR1 hR2 rfl fun H1 cA e1 z1 o1 hAr hNm => ?_
    rw [zarr_int] at e1 hNm
    have hcA : cA = cI := by
      have h3 := (hK.2 0 _ rfl).2
      have h3 : s.vm.findClass ("[" ++ FieldType.int.toString) = some cI := h3
      exact Option.some.inj (hNm.symm.trans h3)
    subst hcA
    have hk : ∀ (k : Nat) (x : Nat × va_E), (zws cA b base S M)[k]? = some x → H1[x.1]? = H[x.1]? := fun k x hx => o1 x.1 ((hP k x hx).lt)
    have hP1 : va_P D vwCl (zws cA b base S M ++ [(base + (S.length - 1), zcell cA b base (fun _ _ => 0) 0 (.inl (zw x).toNat))]) H1 := by
      refine (hP.kept hk).app (fun k y hy => ?_)
      have hz : k < 1 := (List.getElem?_eq_some_iff.mp hy).1
      rw [show k = 0 by omega] at hy
      cases hy
      show H1[base + (S.length - 1)]? = some (vp_cell cA ((zw x).toNat, .inl (fun _ => Int32.ofInt 0)))
      rw [show base + (S.length - 1) = H.size by omega, e1, vp_cell_i, zdv_int]
      rfl
    rw [← zws_new (.inl (zw x).toNat) hpos] at hP1
    have hS2 : va_S (fun q => base ≤ q) s.heap H1 locs := ⟨Nat.le_trans hS.1 (by omega), fun x h1 h2 => (o1 x (Nat.lt_of_lt_of_le h1 hS.1)).trans (hS.2.1 x h1 h2), hS.2.2⟩
    have hq2 := kk H1 locs lsA (cells + 1) (slots + (zw x).toNat) ⟨hl, hP1, hS2, zhead_app hS0, zM0_new hpos hM0⟩ (by show cells + 1 + n0 = (S ++ [_]).length; rw [List.length_append, List.length_singleton]; omega) (by show slots + (zw x).toNat + z0 = zsl (S ++ [_]); rw [zsl_app]; show _ = zsl S + (zw x).toNat; omega)
    have ea : zcv b base (.inr (some S.length)) = .ref H.size := by
      show Value.ref (zad b base S.length) = _
      obtain ⟨n, hn⟩ : ∃ n, S.length = n + 1 := ⟨S.length - 1, by omega⟩
      rw [hn]
      show Value.ref (base + n) = _
      rw [show base + n = H.size by omega]
    have hq2 : W p l e R s m args below meth c H1 locs (cells + 1) (slots + (zw x).toNat) Q (F0 m (pc + 2) lsA (zcv b base (.inr (some S.length)) :: st.map (zcv b base))) := hq2
    rw [ea] at hq2
    exact hq2
  · rw [if_neg hxx] at hs
    cases hs
theorem zs_objInit {idx : Nat} (X : zCx p s m args meth c E D cI b base L xs n0) (hw : zok E pc (.invokespecial idx, ra, rb, 1) = true) (hs : zstep zdef (.invokespecial idx, ra, rb, 1) (pc, ls, st, S, M) = some s2) (F : zFt D cI b base L xs s ls S M H locs lsA) (hc : cells + n0 = S.length) (hz : slots + z0 = zsl S) (hll : ls.length = E.2.2.1) (hRf : 1 ≤ R.frames) (hRl : 80 ≤ R.locals) (kk : zKK p l e R s m args below meth c Q D cI b base L xs n0 z0 s2) : W p l e R s m args below meth c H locs cells slots Q (F0 m pc lsA (st.map (zcv b base))) := by
  obtain ⟨hx, hb, hml, hown, hts, hname, hK, hX, hbb, hsz, hn0, hN⟩ := X
  obtain ⟨hl, hP, hS, hS0, hM0⟩ := F
  obtain ⟨hd, hw⟩ := (Bool.and_eq_true _ _).mp hw
  have hd : decode E.2.1 pc = .ok (.invokespecial idx, 3) := of_decide_eq_true hd
  have hlk := hts _ (zin_spec hw)
  rcases st with _ | ⟨x | _ | j, st⟩
  · cases hs
  · cases hs
  · cases hs
  have hs : (if st.length ≤ 8 then some (pc + 3, ls, st, S, M) else none) = some s2 := hs
  by_cases h8 : st.length ≤ 8
  · rw [if_pos h8] at hs
    cases hs
    have hz0 := zx_ok
    simp only [Bool.and_eq_true] at hz0
    have hin := hts _ (zin_spec hz0.1.1.1.2)
    have hco : (Cond.code objectInit ⟨#[0xb1]⟩ 1 none) ∈ zT := List.mem_filter.mpr ⟨List.mem_of_getElem? zobj_ok, rfl⟩
    have hlen : lsA.size = c.maxLocals := by
      obtain ⟨lv, h1, -⟩ := hl
      rw [h1.1, hml, hll]
    refine W.objInit (g := F0 m pc lsA ((Sum.inr (some j) :: st).map (zcv b base))) hx hb hown hlk hin (hts _ hco) rfl hlen rfl hd hRf ?_ (kk H locs lsA cells slots ⟨hl, hP, hS, hS0, hM0⟩ hc hz)
    show 2 * 0 + _ + 12 ≤ _
    rw [zcat_sum]
    omega
  · rw [if_neg h8] at hs
    cases hs
theorem zs_copy {idx : Nat} (X : zCx p s m args meth c E D cI b base L xs n0) (hw : zok E pc (.invokestatic idx, ra, rb, 3) = true) (hs : zstep zdef (.invokestatic idx, ra, rb, 3) (pc, ls, st, S, M) = some s2) (F : zFt D cI b base L xs s ls S M H locs lsA) (hc : cells + n0 = S.length) (hz : slots + z0 = zsl S) (hll : ls.length = E.2.2.1) (hRf : 1 ≤ R.frames) (hRl : 80 ≤ R.locals) (kk : zKK p l e R s m args below meth c Q D cI b base L xs n0 z0 s2) : W p l e R s m args below meth c H locs cells slots Q (F0 m pc lsA (st.map (zcv b base))) := by
  obtain ⟨hx, hb, hml, hown, hts, hname, hK, hX, hbb, hsz, hn0, hN⟩ := X
  obtain ⟨hl, hP, hS, hS0, hM0⟩ := F
  obtain ⟨hd, hw⟩ := (Bool.and_eq_true _ _).mp hw
  have hd : decode E.2.1 pc = .ok (.invokestatic idx, 3) := of_decide_eq_true hd
  have hlk := hts _ (zin_spec hw)
  have hD := zws_D cI b base S M
  rcases st with _ | ⟨n | n, st⟩
  · cases hs
  rotate_left
  · cases hs
  rcases st with _ | ⟨dp | dp, st⟩
  · cases hs
  rotate_left
  · cases hs
  rcases st with _ | ⟨y | _ | j, st⟩
  · cases hs
  · cases hs
  · cases hs
  rcases st with _ | ⟨sp | sp, st⟩
  · cases hs
  rotate_left
  · cases hs
  rcases st with _ | ⟨y | _ | i, st⟩
  · cases hs
  · cases hs
  · cases hs
  rcases i with _ | i
  · simp [zstep] at hs
  rcases j with _ | j
  · simp [zstep] at hs
  cases hS1 : S[i + 1]? with
  | none => simp [zstep, hS1] at hs
  | some c1 =>
    rcases c1 with n0' | ⟨ci, fs⟩
    rotate_left
    · simp [zstep, hS1] at hs
    cases hS2 : S[j + 1]? with
    | none => simp [zstep, hS1, hS2] at hs
    | some c2 =>
      rcases c2 with n1 | ⟨ci, fs⟩
      rotate_left
      · simp [zstep, hS1, hS2] at hs
      by_cases hh : st.length ≤ 8 ∧ 0 ≤ zw sp ∧ 0 ≤ zw dp ∧ 0 ≤ zw n ∧ zw sp + zw n ≤ n0' ∧ zw dp + zw n ≤ n1
      · simp only [zstep, hS1, hS2, if_pos hh, Option.some.injEq] at hs
        subst hs
        obtain ⟨h8, h1, h2, h3, h4, h5⟩ := hh
        have hz0 := zx_ok
        simp only [Bool.and_eq_true] at hz0
        have he1 := zws_get (cI := cI) (b := b) (base := base) (M := M) hS1
        have he2 := zws_get (cI := cI) (b := b) (base := base) (M := M) hS2
        have hlen : c.maxLocals = lsA.size := by
          obtain ⟨lv, h1, -⟩ := hl
          rw [h1.1, hml, hll]
        refine va_copyi (ty := .int) hx hb hlen hown hlk (hts _ (zin_spec hz0.1.1.2)) (hts _ (zin_spec hz0.1.2)) (hts _ (zin_spec hz0.2)) hK hP hD hS i j 0 0 he1 he2 rfl rfl rfl (fun z => by have := (zof_lt0 sp).mp z; omega) (fun z => by have := (zof_lt0 dp).mp z; omega) (fun z => by have := (zof_lt0 n).mp z; omega) (by show (zw sp).toNat + (zw n).toNat ≤ n0'; omega) (by show (zw dp).toNat + (zw n).toNat ≤ n1; omega) (fun _ _ => rfl) hRf ?_ hd (fun H1 locs1 q1 q2 q3 => ?_)
        · rw [zcat_sum]
          have : nativeFrameWords "java/lang/System" "arraycopy" 5 = 7 := by decide
          omega
        · have e := zws_cp (cI := cI) (b := b) (base := base) (M := M) (i := i) (sp := (zw sp).toNat) (dp := (zw dp).toNat) (n := (zw n).toNat) hS2
          have q1 : va_P D vwCl (zws cI b base S (zcopy M (i + 1) (j + 1) (zw sp).toNat (zw dp).toNat (zw n).toNat)) H1 := by rw [e]; exact q1
          refine kk H1 locs1 lsA cells slots ⟨hl, q1, q3, hS0, fun k hk => ?_⟩ hc hz
          show Int32.ofInt (zcopy M (i + 1) (j + 1) (zw sp).toNat (zw dp).toNat (zw n).toNat 0 k) = xs k
          unfold zcopy
          rw [if_neg (fun z => by omega)]
          exact hM0 k hk
      · simp only [zstep, hS1, hS2, if_neg hh] at hs
        cases hs
end ZV
