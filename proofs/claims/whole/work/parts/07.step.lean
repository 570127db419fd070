/-! ONE STEP: an instruction a theorem -/
section ZT
variable {p : Program} {l : Launch} {e : Env} {R : Room} {s : State} {m : MethodId} {args : Array Value} {below : List Frame} {meth : Method} {c : Code} {Q : State → Prop} {H : Heap} {locs : List Loc} {cells slots : Nat}
variable {E : zE} {D : va_G} {cI : ClassId} {b base L : Nat} {xs : Nat → Int32} {n0 z0 pc ra rb rt : Nat} {ls : List (Option zV)} {st : List zV} {S : List zC} {M : zM} {s2 : zS} {lsA : Array Slot}
/-- the goal behind a step -/
abbrev zKK (p : Program) (l : Launch) (e : Env) (R : Room) (s : State) (m : MethodId) (args : Array Value) (below : List Frame) (meth : Method) (c : Code) (Q : State → Prop) (D : va_G) (cI : ClassId) (b base L : Nat) (xs : Nat → Int32) (n0 z0 : Nat) (s2 : zS) : Prop := ∀ (H2 : Heap) (locs2 : List Loc) (lsB : Array Slot) (cells2 slots2 : Nat), zFt D cI b base L xs s s2.2.1 s2.2.2.2.1 s2.2.2.2.2 H2 locs2 lsB → cells2 + n0 = s2.2.2.2.1.length → slots2 + z0 = zsl s2.2.2.2.1 → W p l e R s m args below meth c H2 locs2 cells2 slots2 Q (F0 m s2.1 lsB (s2.2.2.1.map (zcv b base)))
theorem zs_iconst {n : Int} (X : zCx p s m args meth c E D cI b base L xs n0) (hw : zok E pc (.iconst n, ra, rb, rt) = true) (hs : zstep zdef (.iconst n, ra, rb, rt) (pc, ls, st, S, M) = some s2) (F : zFt D cI b base L xs s ls S M H locs lsA) (hc : cells + n0 = S.length) (hz : slots + z0 = zsl S) (kk : zKK p l e R s m args below meth c Q D cI b base L xs n0 z0 s2) : W p l e R s m args below meth c H locs cells slots Q (F0 m pc lsA (st.map (zcv b base))) := by
  obtain ⟨hx, hb, hml, hown, hts, hname, hK, hX, hbb, hsz, hn0, hN⟩ := X
  obtain ⟨hl, hP, hS, hS0, hM0⟩ := F
  have hd : decode E.2.1 pc = .ok (.iconst n, 1) := of_decide_eq_true hw
  cases hs
  exact lv_iconst hx hb hd rfl (kk H locs lsA cells slots ⟨hl, hP, hS, hS0, hM0⟩ hc hz)
theorem zs_bipush {n : Int} (X : zCx p s m args meth c E D cI b base L xs n0) (hw : zok E pc (.bipush n, ra, rb, rt) = true) (hs : zstep zdef (.bipush n, ra, rb, rt) (pc, ls, st, S, M) = some s2) (F : zFt D cI b base L xs s ls S M H locs lsA) (hc : cells + n0 = S.length) (hz : slots + z0 = zsl S) (kk : zKK p l e R s m args below meth c Q D cI b base L xs n0 z0 s2) : W p l e R s m args below meth c H locs cells slots Q (F0 m pc lsA (st.map (zcv b base))) := by
  obtain ⟨hx, hb, hml, hown, hts, hname, hK, hX, hbb, hsz, hn0, hN⟩ := X
  obtain ⟨hl, hP, hS, hS0, hM0⟩ := F
  have hw := hw
  obtain ⟨hd, hw⟩ := (Bool.and_eq_true _ _).mp hw
  have hd : decode E.2.1 pc = .ok (.bipush n, 2) := of_decide_eq_true hd
  cases hs
  exact lv_bipush hx hb hd (of_decide_eq_true hw) (kk H locs lsA cells slots ⟨hl, hP, hS, hS0, hM0⟩ hc hz)
theorem zs_sipush {n : Int} (X : zCx p s m args meth c E D cI b base L xs n0) (hw : zok E pc (.sipush n, ra, rb, rt) = true) (hs : zstep zdef (.sipush n, ra, rb, rt) (pc, ls, st, S, M) = some s2) (F : zFt D cI b base L xs s ls S M H locs lsA) (hc : cells + n0 = S.length) (hz : slots + z0 = zsl S) (kk : zKK p l e R s m args below meth c Q D cI b base L xs n0 z0 s2) : W p l e R s m args below meth c H locs cells slots Q (F0 m pc lsA (st.map (zcv b base))) := by
  obtain ⟨hx, hb, hml, hown, hts, hname, hK, hX, hbb, hsz, hn0, hN⟩ := X
  obtain ⟨hl, hP, hS, hS0, hM0⟩ := F
  have hw := hw
  obtain ⟨hd, hw⟩ := (Bool.and_eq_true _ _).mp hw
  have hd : decode E.2.1 pc = .ok (.sipush n, 3) := of_decide_eq_true hd
  cases hs
  exact lv_sipush hx hb hd (of_decide_eq_true hw) (kk H locs lsA cells slots ⟨hl, hP, hS, hS0, hM0⟩ hc hz)
theorem zs_iload_n {k : Fin 4} (X : zCx p s m args meth c E D cI b base L xs n0) (hw : zok E pc (.iload_n k, ra, rb, rt) = true) (hs : zstep zdef (.iload_n k, ra, rb, rt) (pc, ls, st, S, M) = some s2) (F : zFt D cI b base L xs s ls S M H locs lsA) (hc : cells + n0 = S.length) (hz : slots + z0 = zsl S) (kk : zKK p l e R s m args below meth c Q D cI b base L xs n0 z0 s2) : W p l e R s m args below meth c H locs cells slots Q (F0 m pc lsA (st.map (zcv b base))) := by
  obtain ⟨hx, hb, hml, hown, hts, hname, hK, hX, hbb, hsz, hn0, hN⟩ := X
  obtain ⟨hl, hP, hS, hS0, hM0⟩ := F
  have hd : decode E.2.1 pc = .ok (.iload_n k, 1) := of_decide_eq_true hw
  have hs : (match zld ls k.val with | some x => some (pc + 1, ls, .inl x :: st, S, M) | none => none) = some s2 := hs
  cases hq : zld ls k.val with
  | none => rw [hq] at hs; cases hs
  | some x =>
    rw [hq] at hs
    cases hs
    exact lv_iload_n hx hb hd rfl (zlr_at hl (zld_spec hq)) (kk H locs lsA cells slots ⟨hl, hP, hS, hS0, hM0⟩ hc hz)
theorem zs_iload {k : Nat} (X : zCx p s m args meth c E D cI b base L xs n0) (hw : zok E pc (.iload k, ra, rb, rt) = true) (hs : zstep zdef (.iload k, ra, rb, rt) (pc, ls, st, S, M) = some s2) (F : zFt D cI b base L xs s ls S M H locs lsA) (hc : cells + n0 = S.length) (hz : slots + z0 = zsl S) (kk : zKK p l e R s m args below meth c Q D cI b base L xs n0 z0 s2) : W p l e R s m args below meth c H locs cells slots Q (F0 m pc lsA (st.map (zcv b base))) := by
  obtain ⟨hx, hb, hml, hown, hts, hname, hK, hX, hbb, hsz, hn0, hN⟩ := X
  obtain ⟨hl, hP, hS, hS0, hM0⟩ := F
  have hd : decode E.2.1 pc = .ok (.iload k, 2) := of_decide_eq_true hw
  have hs : (match zld ls k with | some x => some (pc + 2, ls, .inl x :: st, S, M) | none => none) = some s2 := hs
  cases hq : zld ls k with
  | none => rw [hq] at hs; cases hs
  | some x =>
    rw [hq] at hs
    cases hs
    exact lv_iload hx hb hd (zlr_at hl (zld_spec hq)) (kk H locs lsA cells slots ⟨hl, hP, hS, hS0, hM0⟩ hc hz)
theorem zs_aload_n {k : Fin 4} (X : zCx p s m args meth c E D cI b base L xs n0) (hw : zok E pc (.aload_n k, ra, rb, rt) = true) (hs : zstep zdef (.aload_n k, ra, rb, rt) (pc, ls, st, S, M) = some s2) (F : zFt D cI b base L xs s ls S M H locs lsA) (hc : cells + n0 = S.length) (hz : slots + z0 = zsl S) (kk : zKK p l e R s m args below meth c Q D cI b base L xs n0 z0 s2) : W p l e R s m args below meth c H locs cells slots Q (F0 m pc lsA (st.map (zcv b base))) := by
  obtain ⟨hx, hb, hml, hown, hts, hname, hK, hX, hbb, hsz, hn0, hN⟩ := X
  obtain ⟨hl, hP, hS, hS0, hM0⟩ := F
  have hd : decode E.2.1 pc = .ok (.aload_n k, 1) := of_decide_eq_true hw
  have hs : (match zldr ls k.val with | some x => some (pc + 1, ls, .inr (some x) :: st, S, M) | none => none) = some s2 := hs
  cases hq : zldr ls k.val with
  | none => rw [hq] at hs; cases hs
  | some x =>
    rw [hq] at hs
    cases hs
    exact lv_aload_n hx hb hd rfl (zlr_at hl (zldr_spec hq)) (kk H locs lsA cells slots ⟨hl, hP, hS, hS0, hM0⟩ hc hz)
theorem zs_aload {k : Nat} (X : zCx p s m args meth c E D cI b base L xs n0) (hw : zok E pc (.aload k, ra, rb, rt) = true) (hs : zstep zdef (.aload k, ra, rb, rt) (pc, ls, st, S, M) = some s2) (F : zFt D cI b base L xs s ls S M H locs lsA) (hc : cells + n0 = S.length) (hz : slots + z0 = zsl S) (kk : zKK p l e R s m args below meth c Q D cI b base L xs n0 z0 s2) : W p l e R s m args below meth c H locs cells slots Q (F0 m pc lsA (st.map (zcv b base))) := by
  obtain ⟨hx, hb, hml, hown, hts, hname, hK, hX, hbb, hsz, hn0, hN⟩ := X
  obtain ⟨hl, hP, hS, hS0, hM0⟩ := F
  have hd : decode E.2.1 pc = .ok (.aload k, 2) := of_decide_eq_true hw
  have hs : (match zldr ls k with | some x => some (pc + 2, ls, .inr (some x) :: st, S, M) | none => none) = some s2 := hs
  cases hq : zldr ls k with
  | none => rw [hq] at hs; cases hs
  | some x =>
    rw [hq] at hs
    cases hs
    exact lv_aload hx hb hd (zlr_at hl (zldr_spec hq)) (kk H locs lsA cells slots ⟨hl, hP, hS, hS0, hM0⟩ hc hz)
theorem zs_istore_n {k : Fin 4} (X : zCx p s m args meth c E D cI b base L xs n0) (hw : zok E pc (.istore_n k, ra, rb, rt) = true) (hs : zstep zdef (.istore_n k, ra, rb, rt) (pc, ls, st, S, M) = some s2) (F : zFt D cI b base L xs s ls S M H locs lsA) (hc : cells + n0 = S.length) (hz : slots + z0 = zsl S) (kk : zKK p l e R s m args below meth c Q D cI b base L xs n0 z0 s2) : W p l e R s m args below meth c H locs cells slots Q (F0 m pc lsA (st.map (zcv b base))) := by
  obtain ⟨hx, hb, hml, hown, hts, hname, hK, hX, hbb, hsz, hn0, hN⟩ := X
  obtain ⟨hl, hP, hS, hS0, hM0⟩ := F
  have hd : decode E.2.1 pc = .ok (.istore_n k, 1) := of_decide_eq_true hw
  rcases st with _ | ⟨x | x, st⟩
  · cases hs
  rotate_left
  · cases hs
  have hs : (if k.val < ls.length then some (pc + 1, ls.set k.val (some (.inl x)), st, S, M) else none) = some s2 := hs
  by_cases hlt : k.val < ls.length
  · rw [if_pos hlt] at hs
    cases hs
    obtain ⟨lv, hl1, hl2⟩ := hl
    exact lv_istore_n hx hb hd rfl hl1 hlt rfl (fun lsB hB => kk H locs lsB cells slots ⟨zlr_set (lsA := lsA) (v := .inl x) hl2 hB, hP, hS, hS0, hM0⟩ hc hz)
  · rw [if_neg hlt] at hs
    cases hs
theorem zs_istore {k : Nat} (X : zCx p s m args meth c E D cI b base L xs n0) (hw : zok E pc (.istore k, ra, rb, rt) = true) (hs : zstep zdef (.istore k, ra, rb, rt) (pc, ls, st, S, M) = some s2) (F : zFt D cI b base L xs s ls S M H locs lsA) (hc : cells + n0 = S.length) (hz : slots + z0 = zsl S) (kk : zKK p l e R s m args below meth c Q D cI b base L xs n0 z0 s2) : W p l e R s m args below meth c H locs cells slots Q (F0 m pc lsA (st.map (zcv b base))) := by
  obtain ⟨hx, hb, hml, hown, hts, hname, hK, hX, hbb, hsz, hn0, hN⟩ := X
  obtain ⟨hl, hP, hS, hS0, hM0⟩ := F
  have hd : decode E.2.1 pc = .ok (.istore k, 2) := of_decide_eq_true hw
  rcases st with _ | ⟨x | x, st⟩
  · cases hs
  rotate_left
  · cases hs
  have hs : (if k < ls.length then some (pc + 2, ls.set k (some (.inl x)), st, S, M) else none) = some s2 := hs
  by_cases hlt : k < ls.length
  · rw [if_pos hlt] at hs
    cases hs
    obtain ⟨lv, hl1, hl2⟩ := hl
    exact lv_istore hx hb hd hl1 hlt rfl (fun lsB hB => kk H locs lsB cells slots ⟨zlr_set (lsA := lsA) (v := .inl x) hl2 hB, hP, hS, hS0, hM0⟩ hc hz)
  · rw [if_neg hlt] at hs
    cases hs
theorem zs_astore_n {k : Fin 4} (X : zCx p s m args meth c E D cI b base L xs n0) (hw : zok E pc (.astore_n k, ra, rb, rt) = true) (hs : zstep zdef (.astore_n k, ra, rb, rt) (pc, ls, st, S, M) = some s2) (F : zFt D cI b base L xs s ls S M H locs lsA) (hc : cells + n0 = S.length) (hz : slots + z0 = zsl S) (kk : zKK p l e R s m args below meth c Q D cI b base L xs n0 z0 s2) : W p l e R s m args below meth c H locs cells slots Q (F0 m pc lsA (st.map (zcv b base))) := by
  obtain ⟨hx, hb, hml, hown, hts, hname, hK, hX, hbb, hsz, hn0, hN⟩ := X
  obtain ⟨hl, hP, hS, hS0, hM0⟩ := F
  have hd : decode E.2.1 pc = .ok (.astore_n k, 1) := of_decide_eq_true hw
  rcases st with _ | ⟨x | _ | x, st⟩
  · cases hs
  · cases hs
  · cases hs
  have hs : (if k.val < ls.length then some (pc + 1, ls.set k.val (some (.inr (some x))), st, S, M) else none) = some s2 := hs
  by_cases hlt : k.val < ls.length
  · rw [if_pos hlt] at hs
    cases hs
    obtain ⟨lv, hl1, hl2⟩ := hl
    exact lv_astore_n hx hb hd rfl hl1 hlt rfl (fun lsB hB => kk H locs lsB cells slots ⟨zlr_set (lsA := lsA) (v := .inr (some x)) hl2 hB, hP, hS, hS0, hM0⟩ hc hz)
  · rw [if_neg hlt] at hs
    cases hs
theorem zs_astore {k : Nat} (X : zCx p s m args meth c E D cI b base L xs n0) (hw : zok E pc (.astore k, ra, rb, rt) = true) (hs : zstep zdef (.astore k, ra, rb, rt) (pc, ls, st, S, M) = some s2) (F : zFt D cI b base L xs s ls S M H locs lsA) (hc : cells + n0 = S.length) (hz : slots + z0 = zsl S) (kk : zKK p l e R s m args below meth c Q D cI b base L xs n0 z0 s2) : W p l e R s m args below meth c H locs cells slots Q (F0 m pc lsA (st.map (zcv b base))) := by
  obtain ⟨hx, hb, hml, hown, hts, hname, hK, hX, hbb, hsz, hn0, hN⟩ := X
  obtain ⟨hl, hP, hS, hS0, hM0⟩ := F
  have hd : decode E.2.1 pc = .ok (.astore k, 2) := of_decide_eq_true hw
  rcases st with _ | ⟨x | _ | x, st⟩
  · cases hs
  · cases hs
  · cases hs
  have hs : (if k < ls.length then some (pc + 2, ls.set k (some (.inr (some x))), st, S, M) else none) = some s2 := hs
  by_cases hlt : k < ls.length
  · rw [if_pos hlt] at hs
    cases hs
    obtain ⟨lv, hl1, hl2⟩ := hl
    exact lv_astore hx hb hd hl1 hlt rfl (fun lsB hB => kk H locs lsB cells slots ⟨zlr_set (lsA := lsA) (v := .inr (some x)) hl2 hB, hP, hS, hS0, hM0⟩ hc hz)
  · rw [if_neg hlt] at hs
    cases hs
theorem zs_iinc {k : Nat} {n : Int} (X : zCx p s m args meth c E D cI b base L xs n0) (hw : zok E pc (.iinc k n, ra, rb, rt) = true) (hs : zstep zdef (.iinc k n, ra, rb, rt) (pc, ls, st, S, M) = some s2) (F : zFt D cI b base L xs s ls S M H locs lsA) (hc : cells + n0 = S.length) (hz : slots + z0 = zsl S) (kk : zKK p l e R s m args below meth c Q D cI b base L xs n0 z0 s2) : W p l e R s m args below meth c H locs cells slots Q (F0 m pc lsA (st.map (zcv b base))) := by
  obtain ⟨hx, hb, hml, hown, hts, hname, hK, hX, hbb, hsz, hn0, hN⟩ := X
  obtain ⟨hl, hP, hS, hS0, hM0⟩ := F
  have hd : decode E.2.1 pc = .ok (.iinc k n, 3) := of_decide_eq_true hw
  have hs : (match zld ls k with | some x => some (pc + 3, ls.set k (some (.inl (x + n))), st, S, M) | none => none) = some s2 := hs
  cases hq : zld ls k with
  | none => rw [hq] at hs; cases hs
  | some x =>
    rw [hq] at hs
    cases hs
    obtain ⟨lv, hl1, hl2⟩ := hl
    obtain ⟨i, hi⟩ := List.getElem?_of_mem (hl2 k _ (zld_spec hq))
    exact lv_iinc hx hb hd hl1 hi (v := Int32.ofInt (x + n)) (Int32.ofInt_add x n).symm (zmem_lt (zld_spec hq)) rfl (fun lsB hB => kk H locs lsB cells slots ⟨zlr_set (lsA := lsA) (v := .inl (x + n)) hl2 hB, hP, hS, hS0, hM0⟩ hc hz)
theorem zs_iadd  (X : zCx p s m args meth c E D cI b base L xs n0) (hw : zok E pc (.iadd, ra, rb, rt) = true) (hs : zstep zdef (.iadd, ra, rb, rt) (pc, ls, st, S, M) = some s2) (F : zFt D cI b base L xs s ls S M H locs lsA) (hc : cells + n0 = S.length) (hz : slots + z0 = zsl S) (kk : zKK p l e R s m args below meth c Q D cI b base L xs n0 z0 s2) : W p l e R s m args below meth c H locs cells slots Q (F0 m pc lsA (st.map (zcv b base))) := by
  obtain ⟨hx, hb, hml, hown, hts, hname, hK, hX, hbb, hsz, hn0, hN⟩ := X
  obtain ⟨hl, hP, hS, hS0, hM0⟩ := F
  have hd : decode E.2.1 pc = .ok (.iadd, 1) := of_decide_eq_true hw
  rcases st with _ | ⟨y | y, _ | ⟨x | x, st⟩⟩
  · cases hs
  · cases hs
  rotate_left
  · cases hs
  · cases hs
  · cases hs
  · cases hs
  cases hs
  refine lv_iadd hx hb hd ?_
  have hq := kk H locs lsA cells slots ⟨hl, hP, hS, hS0, hM0⟩ hc hz
  have he : Int32.ofInt (x + y) = Int32.ofInt x + Int32.ofInt y := (Int32.ofInt_add x y)
  rw [← he]
  exact hq
theorem zs_isub  (X : zCx p s m args meth c E D cI b base L xs n0) (hw : zok E pc (.isub, ra, rb, rt) = true) (hs : zstep zdef (.isub, ra, rb, rt) (pc, ls, st, S, M) = some s2) (F : zFt D cI b base L xs s ls S M H locs lsA) (hc : cells + n0 = S.length) (hz : slots + z0 = zsl S) (kk : zKK p l e R s m args below meth c Q D cI b base L xs n0 z0 s2) : W p l e R s m args below meth c H locs cells slots Q (F0 m pc lsA (st.map (zcv b base))) := by
  obtain ⟨hx, hb, hml, hown, hts, hname, hK, hX, hbb, hsz, hn0, hN⟩ := X
  obtain ⟨hl, hP, hS, hS0, hM0⟩ := F
  have hd : decode E.2.1 pc = .ok (.isub, 1) := of_decide_eq_true hw
  rcases st with _ | ⟨y | y, _ | ⟨x | x, st⟩⟩
  · cases hs
  · cases hs
  rotate_left
  · cases hs
  · cases hs
  · cases hs
  · cases hs
  cases hs
  refine lv_isub hx hb hd ?_
  have hq := kk H locs lsA cells slots ⟨hl, hP, hS, hS0, hM0⟩ hc hz
  have he : Int32.ofInt (x - y) = Int32.ofInt x - Int32.ofInt y := (Int32.ofInt_sub x y)
  rw [← he]
  exact hq
theorem zs_imul  (X : zCx p s m args meth c E D cI b base L xs n0) (hw : zok E pc (.imul, ra, rb, rt) = true) (hs : zstep zdef (.imul, ra, rb, rt) (pc, ls, st, S, M) = some s2) (F : zFt D cI b base L xs s ls S M H locs lsA) (hc : cells + n0 = S.length) (hz : slots + z0 = zsl S) (kk : zKK p l e R s m args below meth c Q D cI b base L xs n0 z0 s2) : W p l e R s m args below meth c H locs cells slots Q (F0 m pc lsA (st.map (zcv b base))) := by
  obtain ⟨hx, hb, hml, hown, hts, hname, hK, hX, hbb, hsz, hn0, hN⟩ := X
  obtain ⟨hl, hP, hS, hS0, hM0⟩ := F
  have hd : decode E.2.1 pc = .ok (.imul, 1) := of_decide_eq_true hw
  rcases st with _ | ⟨y | y, _ | ⟨x | x, st⟩⟩
  · cases hs
  · cases hs
  rotate_left
  · cases hs
  · cases hs
  · cases hs
  · cases hs
  cases hs
  refine lv_imul hx hb hd ?_
  have hq := kk H locs lsA cells slots ⟨hl, hP, hS, hS0, hM0⟩ hc hz
  have he : Int32.ofInt (x * y) = Int32.ofInt x * Int32.ofInt y := (Int32.ofInt_mul x y)
  rw [← he]
  exact hq
theorem zs_iand  (X : zCx p s m args meth c E D cI b base L xs n0) (hw : zok E pc (.iand, ra, rb, rt) = true) (hs : zstep zdef (.iand, ra, rb, rt) (pc, ls, st, S, M) = some s2) (F : zFt D cI b base L xs s ls S M H locs lsA) (hc : cells + n0 = S.length) (hz : slots + z0 = zsl S) (kk : zKK p l e R s m args below meth c Q D cI b base L xs n0 z0 s2) : W p l e R s m args below meth c H locs cells slots Q (F0 m pc lsA (st.map (zcv b base))) := by
  obtain ⟨hx, hb, hml, hown, hts, hname, hK, hX, hbb, hsz, hn0, hN⟩ := X
  obtain ⟨hl, hP, hS, hS0, hM0⟩ := F
  have hd : decode E.2.1 pc = .ok (.iand, 1) := of_decide_eq_true hw
  rcases st with _ | ⟨y | y, _ | ⟨x | x, st⟩⟩
  · cases hs
  · cases hs
  rotate_left
  · cases hs
  · cases hs
  · cases hs
  · cases hs
  cases hs
  refine lv_iand hx hb hd ?_
  have hq := kk H locs lsA cells slots ⟨hl, hP, hS, hS0, hM0⟩ hc hz
  have he : Int32.ofInt (zand x y) = Int32.ofInt x &&& Int32.ofInt y := (Int32.ofInt_toInt _)
  rw [← he]
  exact hq
theorem zs_ior  (X : zCx p s m args meth c E D cI b base L xs n0) (hw : zok E pc (.ior, ra, rb, rt) = true) (hs : zstep zdef (.ior, ra, rb, rt) (pc, ls, st, S, M) = some s2) (F : zFt D cI b base L xs s ls S M H locs lsA) (hc : cells + n0 = S.length) (hz : slots + z0 = zsl S) (kk : zKK p l e R s m args below meth c Q D cI b base L xs n0 z0 s2) : W p l e R s m args below meth c H locs cells slots Q (F0 m pc lsA (st.map (zcv b base))) := by
  obtain ⟨hx, hb, hml, hown, hts, hname, hK, hX, hbb, hsz, hn0, hN⟩ := X
  obtain ⟨hl, hP, hS, hS0, hM0⟩ := F
  have hd : decode E.2.1 pc = .ok (.ior, 1) := of_decide_eq_true hw
  rcases st with _ | ⟨y | y, _ | ⟨x | x, st⟩⟩
  · cases hs
  · cases hs
  rotate_left
  · cases hs
  · cases hs
  · cases hs
  · cases hs
  cases hs
  refine lv_ior hx hb hd ?_
  have hq := kk H locs lsA cells slots ⟨hl, hP, hS, hS0, hM0⟩ hc hz
  have he : Int32.ofInt (zor x y) = Int32.ofInt x ||| Int32.ofInt y := (Int32.ofInt_toInt _)
  rw [← he]
  exact hq
theorem zs_ixor  (X : zCx p s m args meth c E D cI b base L xs n0) (hw : zok E pc (.ixor, ra, rb, rt) = true) (hs : zstep zdef (.ixor, ra, rb, rt) (pc, ls, st, S, M) = some s2) (F : zFt D cI b base L xs s ls S M H locs lsA) (hc : cells + n0 = S.length) (hz : slots + z0 = zsl S) (kk : zKK p l e R s m args below meth c Q D cI b base L xs n0 z0 s2) : W p l e R s m args below meth c H locs cells slots Q (F0 m pc lsA (st.map (zcv b base))) := by
  obtain ⟨hx, hb, hml, hown, hts, hname, hK, hX, hbb, hsz, hn0, hN⟩ := X
  obtain ⟨hl, hP, hS, hS0, hM0⟩ := F
  have hd : decode E.2.1 pc = .ok (.ixor, 1) := of_decide_eq_true hw
  rcases st with _ | ⟨y | y, _ | ⟨x | x, st⟩⟩
  · cases hs
  · cases hs
  rotate_left
  · cases hs
  · cases hs
  · cases hs
  · cases hs
  cases hs
  refine lv_ixor hx hb hd ?_
  have hq := kk H locs lsA cells slots ⟨hl, hP, hS, hS0, hM0⟩ hc hz
  have he : Int32.ofInt (zxor x y) = Int32.ofInt x ^^^ Int32.ofInt y := (Int32.ofInt_toInt _)
  rw [← he]
  exact hq
theorem zs_ishl  (X : zCx p s m args meth c E D cI b base L xs n0) (hw : zok E pc (.ishl, ra, rb, rt) = true) (hs : zstep zdef (.ishl, ra, rb, rt) (pc, ls, st, S, M) = some s2) (F : zFt D cI b base L xs s ls S M H locs lsA) (hc : cells + n0 = S.length) (hz : slots + z0 = zsl S) (kk : zKK p l e R s m args below meth c Q D cI b base L xs n0 z0 s2) : W p l e R s m args below meth c H locs cells slots Q (F0 m pc lsA (st.map (zcv b base))) := by
  obtain ⟨hx, hb, hml, hown, hts, hname, hK, hX, hbb, hsz, hn0, hN⟩ := X
  obtain ⟨hl, hP, hS, hS0, hM0⟩ := F
  have hd : decode E.2.1 pc = .ok (.ishl, 1) := of_decide_eq_true hw
  rcases st with _ | ⟨y | y, _ | ⟨x | x, st⟩⟩
  · cases hs
  · cases hs
  rotate_left
  · cases hs
  · cases hs
  · cases hs
  · cases hs
  cases hs
  refine lv_ishl hx hb hd ?_
  have hq := kk H locs lsA cells slots ⟨hl, hP, hS, hS0, hM0⟩ hc hz
  have he : Int32.ofInt (zshl x y) = Int32.ofInt x <<< (Int32.ofInt y &&& 31) := (Int32.ofInt_toInt _)
  rw [← he]
  exact hq
theorem zs_idiv  (X : zCx p s m args meth c E D cI b base L xs n0) (hw : zok E pc (.idiv, ra, rb, rt) = true) (hs : zstep zdef (.idiv, ra, rb, rt) (pc, ls, st, S, M) = some s2) (F : zFt D cI b base L xs s ls S M H locs lsA) (hc : cells + n0 = S.length) (hz : slots + z0 = zsl S) (kk : zKK p l e R s m args below meth c Q D cI b base L xs n0 z0 s2) : W p l e R s m args below meth c H locs cells slots Q (F0 m pc lsA (st.map (zcv b base))) := by
  obtain ⟨hx, hb, hml, hown, hts, hname, hK, hX, hbb, hsz, hn0, hN⟩ := X
  obtain ⟨hl, hP, hS, hS0, hM0⟩ := F
  have hd : decode E.2.1 pc = .ok (.idiv, 1) := of_decide_eq_true hw
  rcases st with _ | ⟨y | y, _ | ⟨x | x, st⟩⟩
  · cases hs
  · cases hs
  rotate_left
  · cases hs
  · cases hs
  · cases hs
  · cases hs
  have hs : (if zw y ≠ 0 then some (pc + 1, ls, .inl (zdiv x y) :: st, S, M) else none) = some s2 := hs
  by_cases hy : zw y ≠ 0
  · rw [if_pos hy] at hs
    cases hs
    refine lv_idiv hx hb hd (fun z => hy ((zof_eq0 y).mp z)) ?_
    have hq := kk H locs lsA cells slots ⟨hl, hP, hS, hS0, hM0⟩ hc hz
    have he : Int32.ofInt (zdiv x y) = Int32.ofInt x / Int32.ofInt y := Int32.ofInt_toInt _
    rw [← he]
    exact hq
  · rw [if_neg hy] at hs
    cases hs
theorem zs_irem  (X : zCx p s m args meth c E D cI b base L xs n0) (hw : zok E pc (.irem, ra, rb, rt) = true) (hs : zstep zdef (.irem, ra, rb, rt) (pc, ls, st, S, M) = some s2) (F : zFt D cI b base L xs s ls S M H locs lsA) (hc : cells + n0 = S.length) (hz : slots + z0 = zsl S) (kk : zKK p l e R s m args below meth c Q D cI b base L xs n0 z0 s2) : W p l e R s m args below meth c H locs cells slots Q (F0 m pc lsA (st.map (zcv b base))) := by
  obtain ⟨hx, hb, hml, hown, hts, hname, hK, hX, hbb, hsz, hn0, hN⟩ := X
  obtain ⟨hl, hP, hS, hS0, hM0⟩ := F
  have hd : decode E.2.1 pc = .ok (.irem, 1) := of_decide_eq_true hw
  rcases st with _ | ⟨y | y, _ | ⟨x | x, st⟩⟩
  · cases hs
  · cases hs
  rotate_left
  · cases hs
  · cases hs
  · cases hs
  · cases hs
  have hs : (if zw y ≠ 0 then some (pc + 1, ls, .inl (zrem x y) :: st, S, M) else none) = some s2 := hs
  by_cases hy : zw y ≠ 0
  · rw [if_pos hy] at hs
    cases hs
    refine lv_irem hx hb hd (fun z => hy ((zof_eq0 y).mp z)) ?_
    have hq := kk H locs lsA cells slots ⟨hl, hP, hS, hS0, hM0⟩ hc hz
    have he : Int32.ofInt (zrem x y) = Int32.ofInt x - Int32.ofInt x / Int32.ofInt y * Int32.ofInt y := Int32.ofInt_toInt _
    rw [← he]
    exact hq
  · rw [if_neg hy] at hs
    cases hs
theorem zs_dup  (X : zCx p s m args meth c E D cI b base L xs n0) (hw : zok E pc (.dup, ra, rb, rt) = true) (hs : zstep zdef (.dup, ra, rb, rt) (pc, ls, st, S, M) = some s2) (F : zFt D cI b base L xs s ls S M H locs lsA) (hc : cells + n0 = S.length) (hz : slots + z0 = zsl S) (kk : zKK p l e R s m args below meth c Q D cI b base L xs n0 z0 s2) : W p l e R s m args below meth c H locs cells slots Q (F0 m pc lsA (st.map (zcv b base))) := by
  obtain ⟨hx, hb, hml, hown, hts, hname, hK, hX, hbb, hsz, hn0, hN⟩ := X
  obtain ⟨hl, hP, hS, hS0, hM0⟩ := F
  have hd : decode E.2.1 pc = .ok (.dup, 1) := of_decide_eq_true hw
  rcases st with _ | ⟨v, st⟩
  · cases hs
  cases hs
  exact lv_dup hx hb hd (zcv_cat b base v) (kk H locs lsA cells slots ⟨hl, hP, hS, hS0, hM0⟩ hc hz)
theorem zs_dup2  (X : zCx p s m args meth c E D cI b base L xs n0) (hw : zok E pc (.dup2, ra, rb, rt) = true) (hs : zstep zdef (.dup2, ra, rb, rt) (pc, ls, st, S, M) = some s2) (F : zFt D cI b base L xs s ls S M H locs lsA) (hc : cells + n0 = S.length) (hz : slots + z0 = zsl S) (kk : zKK p l e R s m args below meth c Q D cI b base L xs n0 z0 s2) : W p l e R s m args below meth c H locs cells slots Q (F0 m pc lsA (st.map (zcv b base))) := by
  obtain ⟨hx, hb, hml, hown, hts, hname, hK, hX, hbb, hsz, hn0, hN⟩ := X
  obtain ⟨hl, hP, hS, hS0, hM0⟩ := F
  have hd : decode E.2.1 pc = .ok (.dup2, 1) := of_decide_eq_true hw
  rcases st with _ | ⟨v, _ | ⟨u, st⟩⟩
  · cases hs
  · cases hs
  cases hs
  exact lv_dup2_11 hx hb hd (zcv_cat b base v) (zcv_cat b base u) (kk H locs lsA cells slots ⟨hl, hP, hS, hS0, hM0⟩ hc hz)
theorem zs_goto {off : Int} (X : zCx p s m args meth c E D cI b base L xs n0) (hw : zok E pc (.goto off, ra, rb, rt) = true) (hs : zstep zdef (.goto off, ra, rb, rt) (pc, ls, st, S, M) = some s2) (F : zFt D cI b base L xs s ls S M H locs lsA) (hc : cells + n0 = S.length) (hz : slots + z0 = zsl S) (kk : zKK p l e R s m args below meth c Q D cI b base L xs n0 z0 s2) : W p l e R s m args below meth c H locs cells slots Q (F0 m pc lsA (st.map (zcv b base))) := by
  obtain ⟨hx, hb, hml, hown, hts, hname, hK, hX, hbb, hsz, hn0, hN⟩ := X
  obtain ⟨hl, hP, hS, hS0, hM0⟩ := F
  have hw := hw
  obtain ⟨hd, hw⟩ := (Bool.and_eq_true _ _).mp hw
  have hd : decode E.2.1 pc = .ok (.goto off, 3) := of_decide_eq_true hd
  cases hs
  exact lv_goto hx hb hd (ztgt_ok (of_decide_eq_true hw)) (kk H locs lsA cells slots ⟨hl, hP, hS, hS0, hM0⟩ hc hz)
theorem zs_if_eq {off : Int} (X : zCx p s m args meth c E D cI b base L xs n0) (hw : zok E pc (.ifCond .eq off, ra, rb, rt) = true) (hs : zstep zdef (.ifCond .eq off, ra, rb, rt) (pc, ls, st, S, M) = some s2) (F : zFt D cI b base L xs s ls S M H locs lsA) (hc : cells + n0 = S.length) (hz : slots + z0 = zsl S) (kk : zKK p l e R s m args below meth c Q D cI b base L xs n0 z0 s2) : W p l e R s m args below meth c H locs cells slots Q (F0 m pc lsA (st.map (zcv b base))) := by
  obtain ⟨hx, hb, hml, hown, hts, hname, hK, hX, hbb, hsz, hn0, hN⟩ := X
  obtain ⟨hl, hP, hS, hS0, hM0⟩ := F
  have hw := hw
  obtain ⟨hd, hw⟩ := (Bool.and_eq_true _ _).mp hw
  have hd : decode E.2.1 pc = .ok (.ifCond .eq off, 3) := of_decide_eq_true hd
  rcases st with _ | ⟨x | x, st⟩
  · cases hs
  rotate_left
  · cases hs
  have hs : some (if zw x = 0 then ztgt pc off else pc + 3, ls, st, S, M) = some s2 := hs
  cases hs
  have hq := kk H locs lsA cells slots ⟨hl, hP, hS, hS0, hM0⟩ hc hz
  refine lv_if_eq hx hb hd (ztgt_ok (of_decide_eq_true hw)) (fun hh => ?_) (fun hh => ?_)
  · have h1 : zw x = 0 := (zof_eq0 x).mp hh
    have hq : W p l e R s m args below meth c H locs cells slots Q (F0 m (if zw x = 0 then ztgt pc off else pc + 3) lsA (st.map (zcv b base))) := hq
    rw [if_pos h1] at hq
    exact hq
  · have h1 : ¬ (zw x = 0) := fun z => hh ((zof_eq0 x).mpr z)
    have hq : W p l e R s m args below meth c H locs cells slots Q (F0 m (if zw x = 0 then ztgt pc off else pc + 3) lsA (st.map (zcv b base))) := hq
    rw [if_neg h1] at hq
    exact hq
theorem zs_if_ne {off : Int} (X : zCx p s m args meth c E D cI b base L xs n0) (hw : zok E pc (.ifCond .ne off, ra, rb, rt) = true) (hs : zstep zdef (.ifCond .ne off, ra, rb, rt) (pc, ls, st, S, M) = some s2) (F : zFt D cI b base L xs s ls S M H locs lsA) (hc : cells + n0 = S.length) (hz : slots + z0 = zsl S) (kk : zKK p l e R s m args below meth c Q D cI b base L xs n0 z0 s2) : W p l e R s m args below meth c H locs cells slots Q (F0 m pc lsA (st.map (zcv b base))) := by
  obtain ⟨hx, hb, hml, hown, hts, hname, hK, hX, hbb, hsz, hn0, hN⟩ := X
  obtain ⟨hl, hP, hS, hS0, hM0⟩ := F
  have hw := hw
  obtain ⟨hd, hw⟩ := (Bool.and_eq_true _ _).mp hw
  have hd : decode E.2.1 pc = .ok (.ifCond .ne off, 3) := of_decide_eq_true hd
  rcases st with _ | ⟨x | x, st⟩
  · cases hs
  rotate_left
  · cases hs
  have hs : some (if zw x ≠ 0 then ztgt pc off else pc + 3, ls, st, S, M) = some s2 := hs
  cases hs
  have hq := kk H locs lsA cells slots ⟨hl, hP, hS, hS0, hM0⟩ hc hz
  refine lv_if_ne hx hb hd (ztgt_ok (of_decide_eq_true hw)) (fun hh => ?_) (fun hh => ?_)
  · have h1 : zw x ≠ 0 := fun z => hh ((zof_eq0 x).mpr z)
    have hq : W p l e R s m args below meth c H locs cells slots Q (F0 m (if zw x ≠ 0 then ztgt pc off else pc + 3) lsA (st.map (zcv b base))) := hq
    rw [if_pos h1] at hq
    exact hq
  · have h1 : ¬ (zw x ≠ 0) := fun z => z ((zof_eq0 x).mp hh)
    have hq : W p l e R s m args below meth c H locs cells slots Q (F0 m (if zw x ≠ 0 then ztgt pc off else pc + 3) lsA (st.map (zcv b base))) := hq
    rw [if_neg h1] at hq
    exact hq
theorem zs_if_lt {off : Int} (X : zCx p s m args meth c E D cI b base L xs n0) (hw : zok E pc (.ifCond .lt off, ra, rb, rt) = true) (hs : zstep zdef (.ifCond .lt off, ra, rb, rt) (pc, ls, st, S, M) = some s2) (F : zFt D cI b base L xs s ls S M H locs lsA) (hc : cells + n0 = S.length) (hz : slots + z0 = zsl S) (kk : zKK p l e R s m args below meth c Q D cI b base L xs n0 z0 s2) : W p l e R s m args below meth c H locs cells slots Q (F0 m pc lsA (st.map (zcv b base))) := by
  obtain ⟨hx, hb, hml, hown, hts, hname, hK, hX, hbb, hsz, hn0, hN⟩ := X
  obtain ⟨hl, hP, hS, hS0, hM0⟩ := F
  have hw := hw
  obtain ⟨hd, hw⟩ := (Bool.and_eq_true _ _).mp hw
  have hd : decode E.2.1 pc = .ok (.ifCond .lt off, 3) := of_decide_eq_true hd
  rcases st with _ | ⟨x | x, st⟩
  · cases hs
  rotate_left
  · cases hs
  have hs : some (if zw x < 0 then ztgt pc off else pc + 3, ls, st, S, M) = some s2 := hs
  cases hs
  have hq := kk H locs lsA cells slots ⟨hl, hP, hS, hS0, hM0⟩ hc hz
  refine lv_if_lt hx hb hd (ztgt_ok (of_decide_eq_true hw)) (fun hh => ?_) (fun hh => ?_)
  · have h1 : zw x < 0 := (zof_lt0 x).mp hh
    have hq : W p l e R s m args below meth c H locs cells slots Q (F0 m (if zw x < 0 then ztgt pc off else pc + 3) lsA (st.map (zcv b base))) := hq
    rw [if_pos h1] at hq
    exact hq
  · have h1 : ¬ (zw x < 0) := fun z => hh ((zof_lt0 x).mpr z)
    have hq : W p l e R s m args below meth c H locs cells slots Q (F0 m (if zw x < 0 then ztgt pc off else pc + 3) lsA (st.map (zcv b base))) := hq
    rw [if_neg h1] at hq
    exact hq
theorem zs_if_ge {off : Int} (X : zCx p s m args meth c E D cI b base L xs n0) (hw : zok E pc (.ifCond .ge off, ra, rb, rt) = true) (hs : zstep zdef (.ifCond .ge off, ra, rb, rt) (pc, ls, st, S, M) = some s2) (F : zFt D cI b base L xs s ls S M H locs lsA) (hc : cells + n0 = S.length) (hz : slots + z0 = zsl S) (kk : zKK p l e R s m args below meth c Q D cI b base L xs n0 z0 s2) : W p l e R s m args below meth c H locs cells slots Q (F0 m pc lsA (st.map (zcv b base))) := by
  obtain ⟨hx, hb, hml, hown, hts, hname, hK, hX, hbb, hsz, hn0, hN⟩ := X
  obtain ⟨hl, hP, hS, hS0, hM0⟩ := F
  have hw := hw
  obtain ⟨hd, hw⟩ := (Bool.and_eq_true _ _).mp hw
  have hd : decode E.2.1 pc = .ok (.ifCond .ge off, 3) := of_decide_eq_true hd
  rcases st with _ | ⟨x | x, st⟩
  · cases hs
  rotate_left
  · cases hs
  have hs : some (if zw x ≥ 0 then ztgt pc off else pc + 3, ls, st, S, M) = some s2 := hs
  cases hs
  have hq := kk H locs lsA cells slots ⟨hl, hP, hS, hS0, hM0⟩ hc hz
  refine lv_if_ge hx hb hd (ztgt_ok (of_decide_eq_true hw)) (fun hh => ?_) (fun hh => ?_)
  · have h1 : zw x ≥ 0 := (zof_ge0 x).mp hh
    have hq : W p l e R s m args below meth c H locs cells slots Q (F0 m (if zw x ≥ 0 then ztgt pc off else pc + 3) lsA (st.map (zcv b base))) := hq
    rw [if_pos h1] at hq
    exact hq
  · have h1 : ¬ (zw x ≥ 0) := fun z => hh ((zof_ge0 x).mpr z)
    have hq : W p l e R s m args below meth c H locs cells slots Q (F0 m (if zw x ≥ 0 then ztgt pc off else pc + 3) lsA (st.map (zcv b base))) := hq
    rw [if_neg h1] at hq
    exact hq
theorem zs_if_gt {off : Int} (X : zCx p s m args meth c E D cI b base L xs n0) (hw : zok E pc (.ifCond .gt off, ra, rb, rt) = true) (hs : zstep zdef (.ifCond .gt off, ra, rb, rt) (pc, ls, st, S, M) = some s2) (F : zFt D cI b base L xs s ls S M H locs lsA) (hc : cells + n0 = S.length) (hz : slots + z0 = zsl S) (kk : zKK p l e R s m args below meth c Q D cI b base L xs n0 z0 s2) : W p l e R s m args below meth c H locs cells slots Q (F0 m pc lsA (st.map (zcv b base))) := by
  obtain ⟨hx, hb, hml, hown, hts, hname, hK, hX, hbb, hsz, hn0, hN⟩ := X
  obtain ⟨hl, hP, hS, hS0, hM0⟩ := F
  have hw := hw
  obtain ⟨hd, hw⟩ := (Bool.and_eq_true _ _).mp hw
  have hd : decode E.2.1 pc = .ok (.ifCond .gt off, 3) := of_decide_eq_true hd
  rcases st with _ | ⟨x | x, st⟩
  · cases hs
  rotate_left
  · cases hs
  have hs : some (if zw x > 0 then ztgt pc off else pc + 3, ls, st, S, M) = some s2 := hs
  cases hs
  have hq := kk H locs lsA cells slots ⟨hl, hP, hS, hS0, hM0⟩ hc hz
  refine lv_if_gt hx hb hd (ztgt_ok (of_decide_eq_true hw)) (fun hh => ?_) (fun hh => ?_)
  · have h1 : zw x > 0 := (zof_gt0 x).mp hh
    have hq : W p l e R s m args below meth c H locs cells slots Q (F0 m (if zw x > 0 then ztgt pc off else pc + 3) lsA (st.map (zcv b base))) := hq
    rw [if_pos h1] at hq
    exact hq
  · have h1 : ¬ (zw x > 0) := fun z => hh ((zof_gt0 x).mpr z)
    have hq : W p l e R s m args below meth c H locs cells slots Q (F0 m (if zw x > 0 then ztgt pc off else pc + 3) lsA (st.map (zcv b base))) := hq
    rw [if_neg h1] at hq
    exact hq
theorem zs_if_le {off : Int} (X : zCx p s m args meth c E D cI b base L xs n0) (hw : zok E pc (.ifCond .le off, ra, rb, rt) = true) (hs : zstep zdef (.ifCond .le off, ra, rb, rt) (pc, ls, st, S, M) = some s2) (F : zFt D cI b base L xs s ls S M H locs lsA) (hc : cells + n0 = S.length) (hz : slots + z0 = zsl S) (kk : zKK p l e R s m args below meth c Q D cI b base L xs n0 z0 s2) : W p l e R s m args below meth c H locs cells slots Q (F0 m pc lsA (st.map (zcv b base))) := by
  obtain ⟨hx, hb, hml, hown, hts, hname, hK, hX, hbb, hsz, hn0, hN⟩ := X
  obtain ⟨hl, hP, hS, hS0, hM0⟩ := F
  have hw := hw
  obtain ⟨hd, hw⟩ := (Bool.and_eq_true _ _).mp hw
  have hd : decode E.2.1 pc = .ok (.ifCond .le off, 3) := of_decide_eq_true hd
  rcases st with _ | ⟨x | x, st⟩
  · cases hs
  rotate_left
  · cases hs
  have hs : some (if zw x ≤ 0 then ztgt pc off else pc + 3, ls, st, S, M) = some s2 := hs
  cases hs
  have hq := kk H locs lsA cells slots ⟨hl, hP, hS, hS0, hM0⟩ hc hz
  refine lv_if_le hx hb hd (ztgt_ok (of_decide_eq_true hw)) (fun hh => ?_) (fun hh => ?_)
  · have h1 : zw x ≤ 0 := (zof_le0 x).mp hh
    have hq : W p l e R s m args below meth c H locs cells slots Q (F0 m (if zw x ≤ 0 then ztgt pc off else pc + 3) lsA (st.map (zcv b base))) := hq
    rw [if_pos h1] at hq
    exact hq
  · have h1 : ¬ (zw x ≤ 0) := fun z => hh ((zof_le0 x).mpr z)
    have hq : W p l e R s m args below meth c H locs cells slots Q (F0 m (if zw x ≤ 0 then ztgt pc off else pc + 3) lsA (st.map (zcv b base))) := hq
    rw [if_neg h1] at hq
    exact hq
theorem zs_icmp_eq {off : Int} (X : zCx p s m args meth c E D cI b base L xs n0) (hw : zok E pc (.if_icmp .eq off, ra, rb, rt) = true) (hs : zstep zdef (.if_icmp .eq off, ra, rb, rt) (pc, ls, st, S, M) = some s2) (F : zFt D cI b base L xs s ls S M H locs lsA) (hc : cells + n0 = S.length) (hz : slots + z0 = zsl S) (kk : zKK p l e R s m args below meth c Q D cI b base L xs n0 z0 s2) : W p l e R s m args below meth c H locs cells slots Q (F0 m pc lsA (st.map (zcv b base))) := by
  obtain ⟨hx, hb, hml, hown, hts, hname, hK, hX, hbb, hsz, hn0, hN⟩ := X
  obtain ⟨hl, hP, hS, hS0, hM0⟩ := F
  have hw := hw
  obtain ⟨hd, hw⟩ := (Bool.and_eq_true _ _).mp hw
  have hd : decode E.2.1 pc = .ok (.if_icmp .eq off, 3) := of_decide_eq_true hd
  rcases st with _ | ⟨y | y, _ | ⟨x | x, st⟩⟩
  · cases hs
  · cases hs
  rotate_left
  · cases hs
  · cases hs
  · cases hs
  · cases hs
  have hs : some (if zw x = zw y then ztgt pc off else pc + 3, ls, st, S, M) = some s2 := hs
  cases hs
  have hq := kk H locs lsA cells slots ⟨hl, hP, hS, hS0, hM0⟩ hc hz
  refine lv_icmp_eq hx hb hd (ztgt_ok (of_decide_eq_true hw)) (fun hh => ?_) (fun hh => ?_)
  · have h1 : zw x = zw y := (zof_eq x y).mp hh
    have hq : W p l e R s m args below meth c H locs cells slots Q (F0 m (if zw x = zw y then ztgt pc off else pc + 3) lsA (st.map (zcv b base))) := hq
    rw [if_pos h1] at hq
    exact hq
  · have h1 : ¬ (zw x = zw y) := fun z => hh ((zof_eq x y).mpr z)
    have hq : W p l e R s m args below meth c H locs cells slots Q (F0 m (if zw x = zw y then ztgt pc off else pc + 3) lsA (st.map (zcv b base))) := hq
    rw [if_neg h1] at hq
    exact hq
theorem zs_icmp_ne {off : Int} (X : zCx p s m args meth c E D cI b base L xs n0) (hw : zok E pc (.if_icmp .ne off, ra, rb, rt) = true) (hs : zstep zdef (.if_icmp .ne off, ra, rb, rt) (pc, ls, st, S, M) = some s2) (F : zFt D cI b base L xs s ls S M H locs lsA) (hc : cells + n0 = S.length) (hz : slots + z0 = zsl S) (kk : zKK p l e R s m args below meth c Q D cI b base L xs n0 z0 s2) : W p l e R s m args below meth c H locs cells slots Q (F0 m pc lsA (st.map (zcv b base))) := by
  obtain ⟨hx, hb, hml, hown, hts, hname, hK, hX, hbb, hsz, hn0, hN⟩ := X
  obtain ⟨hl, hP, hS, hS0, hM0⟩ := F
  have hw := hw
  obtain ⟨hd, hw⟩ := (Bool.and_eq_true _ _).mp hw
  have hd : decode E.2.1 pc = .ok (.if_icmp .ne off, 3) := of_decide_eq_true hd
  rcases st with _ | ⟨y | y, _ | ⟨x | x, st⟩⟩
  · cases hs
  · cases hs
  rotate_left
  · cases hs
  · cases hs
  · cases hs
  · cases hs
  have hs : some (if zw x ≠ zw y then ztgt pc off else pc + 3, ls, st, S, M) = some s2 := hs
  cases hs
  have hq := kk H locs lsA cells slots ⟨hl, hP, hS, hS0, hM0⟩ hc hz
  refine lv_icmp_ne hx hb hd (ztgt_ok (of_decide_eq_true hw)) (fun hh => ?_) (fun hh => ?_)
  · have h1 : zw x ≠ zw y := fun z => hh ((zof_eq x y).mpr z)
    have hq : W p l e R s m args below meth c H locs cells slots Q (F0 m (if zw x ≠ zw y then ztgt pc off else pc + 3) lsA (st.map (zcv b base))) := hq
    rw [if_pos h1] at hq
    exact hq
  · have h1 : ¬ (zw x ≠ zw y) := fun z => z ((zof_eq x y).mp hh)
    have hq : W p l e R s m args below meth c H locs cells slots Q (F0 m (if zw x ≠ zw y then ztgt pc off else pc + 3) lsA (st.map (zcv b base))) := hq
    rw [if_neg h1] at hq
    exact hq
theorem zs_icmp_lt {off : Int} (X : zCx p s m args meth c E D cI b base L xs n0) (hw : zok E pc (.if_icmp .lt off, ra, rb, rt) = true) (hs : zstep zdef (.if_icmp .lt off, ra, rb, rt) (pc, ls, st, S, M) = some s2) (F : zFt D cI b base L xs s ls S M H locs lsA) (hc : cells + n0 = S.length) (hz : slots + z0 = zsl S) (kk : zKK p l e R s m args below meth c Q D cI b base L xs n0 z0 s2) : W p l e R s m args below meth c H locs cells slots Q (F0 m pc lsA (st.map (zcv b base))) := by
  obtain ⟨hx, hb, hml, hown, hts, hname, hK, hX, hbb, hsz, hn0, hN⟩ := X
  obtain ⟨hl, hP, hS, hS0, hM0⟩ := F
  have hw := hw
  obtain ⟨hd, hw⟩ := (Bool.and_eq_true _ _).mp hw
  have hd : decode E.2.1 pc = .ok (.if_icmp .lt off, 3) := of_decide_eq_true hd
  rcases st with _ | ⟨y | y, _ | ⟨x | x, st⟩⟩
  · cases hs
  · cases hs
  rotate_left
  · cases hs
  · cases hs
  · cases hs
  · cases hs
  have hs : some (if zw x < zw y then ztgt pc off else pc + 3, ls, st, S, M) = some s2 := hs
  cases hs
  have hq := kk H locs lsA cells slots ⟨hl, hP, hS, hS0, hM0⟩ hc hz
  refine lv_icmp_lt hx hb hd (ztgt_ok (of_decide_eq_true hw)) (fun hh => ?_) (fun hh => ?_)
  · have h1 : zw x < zw y := (zof_lt x y).mp hh
    have hq : W p l e R s m args below meth c H locs cells slots Q (F0 m (if zw x < zw y then ztgt pc off else pc + 3) lsA (st.map (zcv b base))) := hq
    rw [if_pos h1] at hq
    exact hq
  · have h1 : ¬ (zw x < zw y) := fun z => hh ((zof_lt x y).mpr z)
    have hq : W p l e R s m args below meth c H locs cells slots Q (F0 m (if zw x < zw y then ztgt pc off else pc + 3) lsA (st.map (zcv b base))) := hq
    rw [if_neg h1] at hq
    exact hq
theorem zs_icmp_ge {off : Int} (X : zCx p s m args meth c E D cI b base L xs n0) (hw : zok E pc (.if_icmp .ge off, ra, rb, rt) = true) (hs : zstep zdef (.if_icmp .ge off, ra, rb, rt) (pc, ls, st, S, M) = some s2) (F : zFt D cI b base L xs s ls S M H locs lsA) (hc : cells + n0 = S.length) (hz : slots + z0 = zsl S) (kk : zKK p l e R s m args below meth c Q D cI b base L xs n0 z0 s2) : W p l e R s m args below meth c H locs cells slots Q (F0 m pc lsA (st.map (zcv b base))) := by
  obtain ⟨hx, hb, hml, hown, hts, hname, hK, hX, hbb, hsz, hn0, hN⟩ := X
  obtain ⟨hl, hP, hS, hS0, hM0⟩ := F
  have hw := hw
  obtain ⟨hd, hw⟩ := (Bool.and_eq_true _ _).mp hw
  have hd : decode E.2.1 pc = .ok (.if_icmp .ge off, 3) := of_decide_eq_true hd
  rcases st with _ | ⟨y | y, _ | ⟨x | x, st⟩⟩
  · cases hs
  · cases hs
  rotate_left
  · cases hs
  · cases hs
  · cases hs
  · cases hs
  have hs : some (if zw x ≥ zw y then ztgt pc off else pc + 3, ls, st, S, M) = some s2 := hs
  cases hs
  have hq := kk H locs lsA cells slots ⟨hl, hP, hS, hS0, hM0⟩ hc hz
  refine lv_icmp_ge hx hb hd (ztgt_ok (of_decide_eq_true hw)) (fun hh => ?_) (fun hh => ?_)
  · have h1 : zw x ≥ zw y := (zof_le y x).mp hh
    have hq : W p l e R s m args below meth c H locs cells slots Q (F0 m (if zw x ≥ zw y then ztgt pc off else pc + 3) lsA (st.map (zcv b base))) := hq
    rw [if_pos h1] at hq
    exact hq
  · have h1 : ¬ (zw x ≥ zw y) := fun z => hh ((zof_le y x).mpr z)
    have hq : W p l e R s m args below meth c H locs cells slots Q (F0 m (if zw x ≥ zw y then ztgt pc off else pc + 3) lsA (st.map (zcv b base))) := hq
    rw [if_neg h1] at hq
    exact hq
theorem zs_icmp_gt {off : Int} (X : zCx p s m args meth c E D cI b base L xs n0) (hw : zok E pc (.if_icmp .gt off, ra, rb, rt) = true) (hs : zstep zdef (.if_icmp .gt off, ra, rb, rt) (pc, ls, st, S, M) = some s2) (F : zFt D cI b base L xs s ls S M H locs lsA) (hc : cells + n0 = S.length) (hz : slots + z0 = zsl S) (kk : zKK p l e R s m args below meth c Q D cI b base L xs n0 z0 s2) : W p l e R s m args below meth c H locs cells slots Q (F0 m pc lsA (st.map (zcv b base))) := by
  obtain ⟨hx, hb, hml, hown, hts, hname, hK, hX, hbb, hsz, hn0, hN⟩ := X
  obtain ⟨hl, hP, hS, hS0, hM0⟩ := F
  have hw := hw
  obtain ⟨hd, hw⟩ := (Bool.and_eq_true _ _).mp hw
  have hd : decode E.2.1 pc = .ok (.if_icmp .gt off, 3) := of_decide_eq_true hd
  rcases st with _ | ⟨y | y, _ | ⟨x | x, st⟩⟩
  · cases hs
  · cases hs
  rotate_left
  · cases hs
  · cases hs
  · cases hs
  · cases hs
  have hs : some (if zw x > zw y then ztgt pc off else pc + 3, ls, st, S, M) = some s2 := hs
  cases hs
  have hq := kk H locs lsA cells slots ⟨hl, hP, hS, hS0, hM0⟩ hc hz
  refine lv_icmp_gt hx hb hd (ztgt_ok (of_decide_eq_true hw)) (fun hh => ?_) (fun hh => ?_)
  · have h1 : zw x > zw y := (zof_lt y x).mp hh
    have hq : W p l e R s m args below meth c H locs cells slots Q (F0 m (if zw x > zw y then ztgt pc off else pc + 3) lsA (st.map (zcv b base))) := hq
    rw [if_pos h1] at hq
    exact hq
  · have h1 : ¬ (zw x > zw y) := fun z => hh ((zof_lt y x).mpr z)
    have hq : W p l e R s m args below meth c H locs cells slots Q (F0 m (if zw x > zw y then ztgt pc off else pc + 3) lsA (st.map (zcv b base))) := hq
    rw [if_neg h1] at hq
    exact hq
theorem zs_icmp_le {off : Int} (X : zCx p s m args meth c E D cI b base L xs n0) (hw : zok E pc (.if_icmp .le off, ra, rb, rt) = true) (hs : zstep zdef (.if_icmp .le off, ra, rb, rt) (pc, ls, st, S, M) = some s2) (F : zFt D cI b base L xs s ls S M H locs lsA) (hc : cells + n0 = S.length) (hz : slots + z0 = zsl S) (kk : zKK p l e R s m args below meth c Q D cI b base L xs n0 z0 s2) : W p l e R s m args below meth c H locs cells slots Q (F0 m pc lsA (st.map (zcv b base))) := by
  obtain ⟨hx, hb, hml, hown, hts, hname, hK, hX, hbb, hsz, hn0, hN⟩ := X
  obtain ⟨hl, hP, hS, hS0, hM0⟩ := F
  have hw := hw
  obtain ⟨hd, hw⟩ := (Bool.and_eq_true _ _).mp hw
  have hd : decode E.2.1 pc = .ok (.if_icmp .le off, 3) := of_decide_eq_true hd
  rcases st with _ | ⟨y | y, _ | ⟨x | x, st⟩⟩
  · cases hs
  · cases hs
  rotate_left
  · cases hs
  · cases hs
  · cases hs
  · cases hs
  have hs : some (if zw x ≤ zw y then ztgt pc off else pc + 3, ls, st, S, M) = some s2 := hs
  cases hs
  have hq := kk H locs lsA cells slots ⟨hl, hP, hS, hS0, hM0⟩ hc hz
  refine lv_icmp_le hx hb hd (ztgt_ok (of_decide_eq_true hw)) (fun hh => ?_) (fun hh => ?_)
  · have h1 : zw x ≤ zw y := (zof_le x y).mp hh
    have hq : W p l e R s m args below meth c H locs cells slots Q (F0 m (if zw x ≤ zw y then ztgt pc off else pc + 3) lsA (st.map (zcv b base))) := hq
    rw [if_pos h1] at hq
    exact hq
  · have h1 : ¬ (zw x ≤ zw y) := fun z => hh ((zof_le x y).mpr z)
    have hq : W p l e R s m args below meth c H locs cells slots Q (F0 m (if zw x ≤ zw y then ztgt pc off else pc + 3) lsA (st.map (zcv b base))) := hq
    rw [if_neg h1] at hq
    exact hq
end ZT
