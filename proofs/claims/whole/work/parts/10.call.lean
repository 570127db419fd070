/-! CALLS; the contract of every method at once -/
/-- method k, called with 'as', nests at most d - 1 calls, answers r and leaves S', M' -/
def zCR : Nat → Nat → List zV → List zC → zM → Option zV → List zC → zM → Prop
  | 0, _, _, _, _, _, _, _ => False
  | d + 1, k, as, S, M, r, S', M' => ∃ (E : zE) (n : Nat), zmt[k]? = some E ∧ as.length ≤ E.2.2.1 ∧ zGo zdef (zCR d) E.2.2.2.2.2.2.2 n (0, zent E.2.2.1 as, [], S, M) r S' M'
theorem zsl_set {S : List zC} {i : Nat} {c0 c1 : zC} (h : S[i]? = some c0) (hz : zsz c1 = zsz c0) : zsl (S.set i c1) = zsl S := by
  unfold zsl
  rw [List.map_set]
  congr 1
  refine List.ext_getElem? fun j => ?_
  rw [List.getElem?_set]
  by_cases hj : i = j
  · subst hj
    rw [if_pos rfl, List.length_map, if_pos (zmem_lt h), List.getElem?_map, h]
    show some _ = some _
    rw [hz]
  · rw [if_neg hj]
set_option maxHeartbeats 4000000 in
theorem zstep_mono {w : zR} {pc : Nat} {ls : List (Option zV)} {st : List zV} {S : List zC} {M : zM} {s2 : zS} (h : zstep zdef w (pc, ls, st, S, M) = some s2) : s2.2.1.length = ls.length ∧ S.length ≤ s2.2.2.2.1.length ∧ zsl S ≤ zsl s2.2.2.2.1 := by
  obtain ⟨ins, ra, rb, rt⟩ := w
  cases ins
  case putfield =>
    simp only [zstep] at h
    split at h
    · split at h
      · split at h
        · split at h
          · cases h
            exact ⟨rfl, Nat.le_refl _, Nat.le_refl _⟩
          · cases h
        · cases h
      · cases h
    · split at h
      · rename_i hj
        split at h
        · split at h
          · cases h
            refine ⟨rfl, ?_, ?_⟩
            · show _ ≤ (List.set _ _ _).length
              rw [List.length_set]
              exact Nat.le_refl _
            · show _ ≤ zsl (List.set _ _ _)
              rw [zsl_set (by assumption) (by simp [zsz])]
              exact Nat.le_refl _
          · cases h
        · cases h
      · cases h
    · cases h
  case new =>
    cases h
    exact ⟨rfl, by simp, by show _ ≤ zsl (_ ++ [_]); rw [zsl_app]; omega⟩
  case newarray =>
    simp only [zstep] at h
    split at h
    · split at h
      · cases h
        exact ⟨rfl, by simp, by show _ ≤ zsl (_ ++ [_]); rw [zsl_app]; omega⟩
      · cases h
    · cases h
  all_goals simp only [zstep] at h
  all_goals repeat' split at h
  all_goals first
    | (cases h; done)
    | (cases h; exact ⟨rfl, Nat.le_refl _, Nat.le_refl _⟩)
    | (cases h; exact ⟨List.length_set .., Nat.le_refl _, Nat.le_refl _⟩)
theorem zgo_mono {C : Nat → List zV → List zC → zM → Option zV → List zC → zM → Prop} (hC : ∀ k as S M r S' M', C k as S M r S' M' → S.length ≤ S'.length ∧ zsl S ≤ zsl S') {cd : List (Option zR)} : ∀ (n : Nat) (s : zS) (r : Option zV) (S' : List zC) (M' : zM), zGo zdef C cd n s r S' M' → s.2.2.2.1.length ≤ S'.length ∧ zsl s.2.2.2.1 ≤ zsl S'
  | 0, _, _, _, _, h => h.elim
  | n + 1, (pc, ls, st, S, M), r, S', M', h => by
    obtain ⟨w, hcd, h | h | h⟩ := h
    · obtain ⟨-, s2, hs, hg⟩ := h
      have h1 := zgo_mono hC n s2 r S' M' hg
      have h2 := zstep_mono hs
      exact ⟨Nat.le_trans h2.2.1 h1.1, Nat.le_trans h2.2.2 h1.2⟩
    · obtain ⟨-, k, as, rest, v, S1, M1, -, h3, hg⟩ := h
      have h1 := zgo_mono hC n _ r S' M' hg
      have h2 := hC _ _ _ _ _ _ _ h3
      exact ⟨Nat.le_trans h2.1 h1.1, Nat.le_trans h2.2 h1.2⟩
    · obtain ⟨-, -, h1, -⟩ := h
      rw [h1]
      exact ⟨Nat.le_refl _, Nat.le_refl _⟩
theorem zcr_mono : ∀ (d k : Nat) (as : List zV) (S : List zC) (M : zM) (r : Option zV) (S' : List zC) (M' : zM), zCR d k as S M r S' M' → S.length ≤ S'.length ∧ zsl S ≤ zsl S'
  | 0, _, _, _, _, _, _, _, h => h.elim
  | d + 1, k, as, S, M, r, S', M', h => by
    obtain ⟨E, n, -, -, hg⟩ := h
    exact zgo_mono (zcr_mono d) n _ r S' M' hg
def zPc (D : va_G) (cI : ClassId) (b base L : Nat) (xs : Nat → Int32) (as : List zV) (S : List zC) (M : zM) : Array Value → State → Prop := fun v U => v = (as.map (zcv b base)).toArray ∧ U.heap.size + 1 = base + S.length ∧ va_P D vwCl (zws cI b base S M) U.heap ∧ va_K D vwCl [(cI, .int)] U ∧ va_X b L xs U U.heap ∧ zNw U
def zQc (D : va_G) (cI : ClassId) (b base L : Nat) (xs : Nat → Int32) (r : Option zV) (S' : List zC) (M' : zM) : Array Value → State → Outcome → State → Prop := fun _ u oc t => oc = .returned (r.map (zcv b base)) ∧ va_P D vwCl (zws cI b base S' M') t.heap ∧ u.heap.size ≤ t.heap.size ∧ (∀ q : Nat, q < base → t.heap[q]? = u.heap[q]?) ∧ S'.head? = some (.inl L) ∧ ∀ k, k < L → Int32.ofInt (M' 0 k) = xs k
def zrm (d mc ms : Nat) : Room := { frames := d, cells := mc, slots := ms, locals := 80 + 40 * d }
def zwd (E : zE) : List Cond := Cond.code E.1 E.2.1 E.2.2.1 E.2.2.2.1 :: zT
/-- the contract of all methods, calls nested d deep -/
def zCon (l : Launch) (D : va_G) (cI : ClassId) (b base L : Nat) (xs : Nat → Int32) (d : Nat) : Prop := ∀ (k : Nat) (E : zE) (as : List zV) (S : List zC) (M : zM) (r : Option zV) (S' : List zC) (M' : zM), zmt[k]? = some E → zCR d k as S M r S' M' → S.head? = some (.inl L) → (∀ k, k < L → Int32.ofInt (M 0 k) = xs k) → Met l E.1 (zwd E) (zrm d (S'.length - S.length) (zsl S' - zsl S)) (zPc D cI b base L xs as S M) (zQc D cI b base L xs r S' M') (S'.length - S.length) (zsl S' - zsl S) (fun q => base ≤ q)
theorem zgood {w : Cond} (h : w ∈ zT) : (w.onTables && w.keeps) = true ∨ ∃ ty, w = .arrayClass ty := good_of_word (List.mem_filter.mp h).2
theorem zmeth {k : Nat} {E : zE} (h : zmt[k]? = some E) : zall E = true ∧ ∃ q, zmp[k]? = some q ∧ zmok E q = true ∧ Cond.code E.1 E.2.1 E.2.2.1 E.2.2.2.1 ∈ zT := by
  have hk : k < zmp.length := by
    rw [← zm_len]
    exact zmem_lt h
  have hq : zmp[k]? = some zmp[k] := List.getElem?_eq_getElem hk
  refine ⟨za_all E (List.mem_of_getElem? h), zmp[k], hq, ?_, ?_⟩
  · exact List.all_eq_true.mp zm_all (E, zmp[k]) (List.mem_of_getElem? (i := k) (by rw [List.getElem?_zip_eq_some]; exact ⟨h, hq⟩))
  · have h1 := congrArg (fun l => l[k]?) zcodes
    simp only [List.getElem?_map, h, hq, Option.map_some, Option.some.injEq] at h1
    exact List.mem_filter.mpr ⟨List.mem_of_getElem? h1.symm, rfl⟩
theorem zGoodIn {k : Nat} {E : zE} (h : zmt[k]? = some E) : GoodIn zT (zwd E) := by
  intro w hw
  have hm : w ∈ zT := by
    rcases List.mem_cons.mp hw with rfl | hw
    · exact (zmeth h).2.choose_spec.2.2
    · exact hw
  exact ⟨hm, zgood hm⟩
theorem zblind (D : va_G) (cI : ClassId) (b base L : Nat) (xs : Nat → Int32) (as : List zV) (S : List zC) (M : zM) : FrameBlind (zPc D cI b base L xs as S M) := by
  intro a U g mk h
  obtain ⟨h0, h1, h2, h3, h4, h5⟩ := h
  exact ⟨h0, h1, h2, va_K.moved (u := U) (U := U.calling g mk a) (Vm.Alike.refl U.vm) h3, va_X.moved (u := U) (U := U.calling g mk a) (Vm.Alike.refl U.vm) h4, fun q hq => va_Nw.same rfl (rfl : U.vm = (U.calling g mk a).vm) (h5 q hq)⟩
theorem zlist_ret (b base : Nat) (r : Option zV) (rest : List zV) : (r.map (zcv b base)).toList ++ rest.map (zcv b base) = (r.toList ++ rest).map (zcv b base) := by
  cases r <;> rfl
section ZC
variable {p : Program} {l : Launch} {e : Env} {R : Room} {s : State} {m : MethodId} {args : Array Value} {below : List Frame} {meth : Method} {c : Code} {Q : State → Prop} {H : Heap} {locs : List Loc} {cells slots : Nat}
variable {E : zE} {D : va_G} {cI : ClassId} {b base L : Nat} {xs : Nat → Int32} {n0 z0 pc ra rb rt : Nat} {ls : List (Option zV)} {st rest : List zV} {S S1 : List zC} {M M1 : zM} {lsA : Array Slot} {v : Option zV}
theorem zrun_W {mc ms : Nat} {a : Array Value} (hr : va_Run p l e R s m args below meth c H locs cells slots mc ms (F0 m pc lsA (st.map (zcv b base))) (rest.map (zcv b base)) (zQc D cI b base L xs v S1 M1 a) (fun q => base ≤ q)) (hl : zlr b base lsA ls) (hS : va_S (fun q => base ≤ q) s.heap H locs)
    (kk : ∀ (H1 : Heap) (locs1 : List Loc), zFt D cI b base L xs s ls S1 M1 H1 locs1 lsA → W p l e R s m args below meth c H1 locs1 (cells + mc) (slots + ms) Q (F0 m (pc + 3) lsA ((v.toList ++ rest).map (zcv b base)))) : W p l e R s m args below meth c H locs cells slots Q (F0 m pc lsA (st.map (zcv b base))) := by
  intro T hT X
  obtain ⟨v', st₀, t, T', Lc, h0, X', hL, e1, e2, ⟨hv, hP1, hz1, hlow, hh, hm⟩, stp⟩ := hr T hT X
  cases hv
  rw [h0] at hz1 hlow
  rw [← e1] at hP1 hz1 hlow
  have hS1 : va_S (fun q => base ≤ q) s.heap T'.heap (locs ++ Lc) := by
    refine ⟨Nat.le_trans hS.1 hz1, fun q h1 h2 => (hlow q (Nat.not_le.mp h2)).trans (hS.2.1 q h1 h2), fun q hq => ?_⟩
    rcases List.mem_append.mp hq with h | h
    · exact hS.2.2 q h
    · exact hL q h
  have hq := kk T'.heap (locs ++ Lc) ⟨hl, hP1, hS1, hh, hm⟩
  rw [← zlist_ret] at hq
  obtain ⟨t2, a1, b1⟩ := hq T' rfl X'
  exact ⟨t2, stp t2 a1, b1⟩
theorem zpre (X : zCx p s m args meth c E D cI b base L xs n0) (F : zFt D cI b base L xs s ls S M H locs lsA) (hH : H.size + 1 = base + S.length) (as : List zV) : FrameBlind (zPc D cI b base L xs as S M) ∧ ∀ U : State, U.heap = H → s.WarmedH U.vm → zPc D cI b base L xs as S M (as.map (zcv b base)).toArray U := by
  obtain ⟨hx, hb, hml, hown, hts, hname, hK, hX, hbb, hsz, hn0, hN⟩ := X
  obtain ⟨hl, hP, hS, hS0, hM0⟩ := F
  refine ⟨zblind D cI b base L xs as S M, fun U hU hW => ⟨rfl, by rw [hU]; exact hH, by rw [hU]; exact hP, va_K.moved hW.alike hK, ?_, fun q hq => va_Nw.warmM hW (hN q hq)⟩⟩
  rw [hU]
  exact (hX.moved hW.alike).kept (hS.2.1 b (by omega) (Nat.not_le.mpr hbb))
theorem ztake {st : List zV} {n : Nat} (b base : Nat) : st.map (zcv b base) = (((st.take n).reverse).map (zcv b base)).reverse ++ (st.drop n).map (zcv b base) := by
  rw [List.map_reverse, List.reverse_reverse, ← List.map_append, List.take_append_drop]
theorem ztake1 {st : List zV} {n : Nat} {u : zV} (h : st[n]? = some u) : (st.take (n + 1)).reverse = u :: (st.take n).reverse := by
  have h1 : n < st.length := zmem_lt h
  have h2 : st[n] = u := by
    have h3 := List.getElem?_eq_getElem h1
    rw [h] at h3
    exact (Option.some.inj h3).symm
  rw [List.take_succ_eq_append_getElem h1, List.reverse_append, h2]
  rfl
end ZC
