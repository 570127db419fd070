/-! ONE STEP OF OUR MACHINE IS STEPS OF THE JVM -/
theorem zMet_ofW {l : Launch} {y : MethodName} {ws ws' : List Cond} {rm : Room} {Pc : Array Value → State → Prop} {Qc : Array Value → State → Outcome → State → Prop} {mc ms : Nat} {free : Addr → Prop} {cc : ByteArray} {maxL : Nat} {ret : Option FieldType}
    (hy : plainFor y = true) (hw : ws = Cond.code y cc maxL ret :: ws')
    (body : ∀ p e s m args below meth c s₁, BodyLoose p l y (headSpec ws rm) cc maxL ret e s m args below meth c s₁ → c.maxLocals = maxL → Pc args s →
      W p l e (headSpec ws rm).room s m args below meth c s.heap [] 0 0 (MQ below Qc args s mc ms free) (entryFrame m args maxL)) : Met l y ws rm Pc Qc mc ms free := by
  refine MetFree.of_bodySF (code := cc) (maxLocals := maxL) (ret := ret) hy ?_ ?_
  · intro args s m h hn
    obtain ⟨meth, c, h1, h2, h3, h4, h5, h6, -, -⟩ := Cond.code_spec hn (atoms_spec (ws := ws) h _ (by rw [hw]; exact List.mem_cons_self))
    exact ⟨meth, c, h1, h2, h3, h4, h5, h6⟩
  · intro p e s m args below meth c s₁ B hml hP _
    have hh0 : s₁.heap = s.heap := by rw [B.state]; rfl
    obtain ⟨t, a1, o, b1, b2, b3⟩ := body p e s m args below meth c s₁ B hml hP s₁ hh0 (Stand.of_body B)
    exact ⟨t, o, a1, b1, b2, ⟨b3.1, b3.2⟩⟩
def zNw (U : State) : Prop := ∀ q ∈ znest, va_Nw (.methodLinkNest q.1 q.2.1 q.2.2.1 q.2.2.2) U
/-- what stands through a method's run (n0: how many cells there were at its start) -/
def zCx (p : Program) (s : State) (m : MethodId) (args : Array Value) (meth : Method) (c : Code) (E : zE) (D : va_G) (cI : ClassId) (b base L : Nat) (xs : Nat → Int32) (n0 : Nat) : Prop :=
  p.tables.exec = Jvm.exec ∧ c.code = E.2.1 ∧ c.maxLocals = E.2.2.1 ∧ s.vm.findClass E.1.cls = some m.cls ∧ (∀ w ∈ zT, w.before args s = true) ∧ (E.1.name = "<init>" → meth.name = "<init>") ∧ va_K D vwCl [(cI, .int)] s ∧ va_X b L xs s s.heap ∧ b < base ∧ s.heap.size + 1 = base + n0 ∧ 0 < n0 ∧ zNw s
/-- what a state of the run is -/
def zFt (D : va_G) (cI : ClassId) (b base L : Nat) (xs : Nat → Int32) (s : State) (ls : List (Option zV)) (S : List zC) (M : zM) (H : Heap) (locs : List Loc) (lsA : Array Slot) : Prop :=
  zlr b base lsA ls ∧ va_P D vwCl (zws cI b base S M) H ∧ va_S (fun q => base ≤ q) s.heap H locs ∧ S.head? = some (.inl L) ∧ ∀ k, k < L → Int32.ofInt (M 0 k) = xs k
section ZS
variable {p : Program} {l : Launch} {e : Env} {R : Room} {s : State} {m : MethodId} {args : Array Value} {below : List Frame} {meth : Method} {c : Code} {Q : State → Prop} {H : Heap} {locs : List Loc} {cells slots : Nat}
/-- how many cells the heap has, as the room tells -/
theorem zW_size {g : JFrame} (k : s.heap.size ≤ H.size → H.size ≤ s.heap.size + cells → W p l e R s m args below meth c H locs cells slots Q g) : W p l e R s m args below meth c H locs cells slots Q g := by
  intro T hT X
  have h := X.same
  have h1 : s.heap.size ≤ T.heap.size := h.2.1
  have h2 : T.heap.size ≤ s.heap.size + cells := h.2.2.1
  rw [hT] at h1 h2
  exact k h1 h2 T hT X
/-- .. exactly -/
theorem zsize {D : va_G} {cI : ClassId} {b base n0 : Nat} {S : List zC} {M : zM} (hP : va_P D vwCl (zws cI b base S M) H) (hs : s.heap.size + 1 = base + n0) (hn : 0 < n0) (hc : cells + n0 = S.length) (h1 : s.heap.size ≤ H.size) (h2 : H.size ≤ s.heap.size + cells) : H.size + 1 = base + S.length := by
  by_cases h3 : S.length = 1
  · omega
  · have hlt : (S.length - 2) + 1 < S.length := by omega
    have h4 : S[(S.length - 2) + 1]? = some S[(S.length - 2) + 1] := List.getElem?_eq_getElem hlt
    have h5 := (hP (S.length - 2) _ (zws_get h4)).lt
    have h5 : base + (S.length - 2) < H.size := h5
    omega
theorem zdefault (c : Nat) (q : vw_C) (hq : vwCl[c]? = some q) (hdf : (List.range vwCl.length).all (fun c => decide ((zdef c).length = (vwCl.getD c ("", fun _ => ("", "", "", false), 0)).2.2) && (List.range (zdef c).length).all (fun j => decide (defaultValue (ztyp c j) = if (zdef c).getD j false then Value.null else Value.int 0))) = true) : (zdef c).length = q.2.2 ∧ ∀ j, j < q.2.2 → defaultValue (ztyp c j) = if (zdef c).getD j false then Value.null else Value.int 0 := by
  have h1 := List.all_eq_true.mp hdf c (List.mem_range.mpr (zmem_lt hq))
  simp only [Bool.and_eq_true, decide_eq_true_eq, List.getD_eq_getElem?_getD, hq, Option.getD_some] at h1
  refine ⟨h1.1, fun j hj => ?_⟩
  have h2 := List.all_eq_true.mp h1.2 j (List.mem_range.mpr (by rw [h1.1]; exact hj))
  simpa only [decide_eq_true_eq, List.getD_eq_getElem?_getD] using h2
end ZS
