/-! WHAT A ROW OF A TABLE MUST BE: decided by program, row by row -/
def zT : List Cond := lw_tbl.filter goodWord
def zin (i : Nat) (w : Cond) : Bool := decide (lw_tbl[i]? = some w) && goodWord w
theorem zin_spec {i : Nat} {w : Cond} (h : zin i w = true) : w ∈ zT := by
  unfold zin at h
  simp only [Bool.and_eq_true, decide_eq_true_eq] at h
  exact List.mem_filter.mpr ⟨List.mem_of_getElem? h.1, h.2⟩
def zdec (E : zE) (pc : Nat) (i : Instr) (n : Nat) : Bool := decide (decode E.2.1 pc = .ok (i, n))
def zhint (E : zE) (idx : Nat) : Nat := (zhints.getD E.2.2.2.2.2.2.1 []).getD idx 0
def zrefty (o : Option FieldType) : Bool := match o with
  | some (.object _) => true
  | some (.array _) => true
  | _ => false
def zfok (E : zE) (idx ra rb : Nat) : Bool := match vwCl[ra]? with
  | some q => decide (rb < q.2.2) && zin (zhint E idx) (.fieldLink E.1.cls idx (q.2.1 rb).1 (q.2.1 rb).2.1 (q.2.1 rb).2.2.1)
  | none => false
def zpok (E : zE) (ra rb rt : Nat) : Bool := match vwCl[ra]? with
  | some q => match rt with
    | 0 => (!(q.2.1 rb).2.2.2) && decide (parseFieldDescriptor (q.2.1 rb).2.2.1 = some .int)
    | 1 => (!(q.2.1 rb).2.2.2) && decide (parseFieldDescriptor (q.2.1 rb).2.2.1 = some .boolean)
    | 2 => (q.2.1 rb).2.2.2 && decide (E.1.name = "<init>") && decide ((q.2.1 rb).1 = E.1.cls) && zrefty (parseFieldDescriptor (q.2.1 rb).2.2.1)
    | _ => false
  | none => false
/-- a callee: its number, how many parameters, whether it is static -/
def zkok (ra rb : Nat) (st : Bool) : Bool := match zmt[ra]? with
  | some E' => decide (E'.2.2.2.2.1 = rb) && (E'.2.2.2.2.2.1 == st)
  | none => false
def zlok (E : zE) (idx ra : Nat) : Bool := match zmt[ra]? with
  | some E' => zin (zhint E idx) (.methodLink E.1.cls idx E'.1)
  | none => false
def znok (E : zE) (idx ra : Nat) : Bool := match zmt[ra]? with
  | some E' => znest.any (fun q => decide (q.1 = E.1.cls) && decide (q.2.1 = idx) && decide (q.2.2.1 = E'.1))
  | none => false
def zvok (ra rt : Nat) : Bool := match zmt[ra]?, zmp[ra]?, vwCl[rt / 4]? with
  | some E', some p, some q => decide (q.1 = E'.1.cls) && zin p.2.2.1 (.selects E'.1.cls E'.1 E'.1)
  | _, _, _ => false
def zspok (ra : Nat) : Bool := match zmt[ra]? with
  | some E' => decide (E'.1.name = "<init>") && (E'.2.2.2.1 == none)
  | none => false
def zok (E : zE) (pc : Nat) (w : zR) : Bool := match w with
  | (ins, ra, rb, rt) => match ins with
    | .iconst _ | .iload_n _ | .aload_n _ | .istore_n _ | .astore_n _ | .iadd | .isub | .imul | .iand | .ior | .ixor | .ishl | .idiv | .irem | .dup | .dup2 | .iaload | .iastore | .arraylength => zdec E pc ins 1
    | .iload _ | .aload _ | .istore _ | .astore _ => zdec E pc ins 2
    | .bipush n => zdec E pc ins 2 && decide ((Int8.ofInt n).toInt32 = Int32.ofInt n)
    | .sipush n => zdec E pc ins 3 && decide ((Int16.ofInt n).toInt32 = Int32.ofInt n)
    | .iinc _ _ => zdec E pc ins 3
    | .goto off | .ifCond _ off | .if_icmp _ off => zdec E pc ins 3 && decide (0 ≤ (pc : Int) + off)
    | .tableswitch dflt lo hi offs => zdec E pc ins (offs.size * 4 + 16 - (pc % 4)) && decide (0 ≤ (pc : Int) + dflt) && offs.toList.all (fun off => decide (0 ≤ (pc : Int) + off))
    | .lookupswitch dflt ps => zdec E pc ins (ps.size * 8 + 12 - (pc % 4)) && (ps.toList.zip (ps.toList.drop 1)).all (fun (a, next) => a.1 < next.1) && decide (0 ≤ (pc : Int) + dflt) && ps.toList.all (fun q => decide (0 ≤ (pc : Int) + q.2))
    | .getfield idx => zdec E pc ins 3 && zfok E idx ra rb
    | .putfield idx => zdec E pc ins 3 && zfok E idx ra rb && zpok E ra rb rt
    | .new idx => zdec E pc ins 3 && (match vwCl[ra]? with
      | some q => zin (zhint E idx) (.classLink E.1.cls idx q.1)
      | none => false)
    | .newarray t => zdec E pc ins 2 && decide (t = .int)
    | .invokestatic idx => zdec E pc ins 3 && (match rt with
      | 0 => zkok ra rb true && zlok E idx ra
      | 2 => zkok ra rb true && znok E idx ra
      | 3 => zin (zhint E idx) (.methodLink E.1.cls idx arraycopyName)
      | _ => false)
    | .invokevirtual idx => zdec E pc ins 3 && zkok ra rb false && zlok E idx ra && zvok ra rt
    | .invokespecial idx => zdec E pc ins 3 && (match rt with
      | 0 => zkok ra rb false && zlok E idx ra && zspok ra
      | 1 => zin (zhint E idx) (.methodLink E.1.cls idx objectInit)
      | _ => false)
    | .ireturn => zdec E pc ins 1 && (match rt with
      | 0 => decide (E.2.2.2.1 = some .int)
      | 1 => decide (E.2.2.2.1 = some .boolean)
      | _ => false)
    | .return_ => zdec E pc ins 1 && decide (E.2.2.2.1 = none)
    | _ => false
def zall (E : zE) : Bool := (List.range E.2.2.2.2.2.2.2.length).all fun pc => match E.2.2.2.2.2.2.2[pc]? with
  | some (some w) => zok E pc w
  | _ => true
theorem zall_at {E : zE} (h : zall E = true) {pc : Nat} {w : zR} (hw : E.2.2.2.2.2.2.2[pc]? = some (some w)) : zok E pc w = true := by
  have h1 := List.all_eq_true.mp h pc (List.mem_range.mpr (zmem_lt hw))
  simpa only [hw] using h1
/-- a method's own words -/
def zmok (E : zE) (p : Nat × Nat × Nat × Nat) : Bool := zin p.2.1 (if E.2.2.2.2.2.1 then .static E.1 else .instanceMethod E.1) && zin p.2.2.2 (.initialized E.1.cls) && decide (E.1.cls ≠ "java/lang/invoke/MethodHandle") && decide (E.1.cls ≠ "java/lang/invoke/VarHandle") && decide ((parseMethodDescriptor E.1.desc).map (fun d => d.parameters.length) = some E.2.2.2.2.1) && decide (E.2.2.1 ≤ 20) && decide (E.2.2.2.2.1 + 1 ≤ E.2.2.1 + if E.2.2.2.2.2.1 then 1 else 0) && plainFor E.1
