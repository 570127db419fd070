/-! A MACHINE OF OUR OWN: int values are integers (an Int32 is Int32.ofInt of one), references are numbers of cells; a cell's shape stands in a list, all ints of all cells stand in one function M. -/
abbrev zV : Type := Int ⊕ Option Nat
/-- .inl n: an int array of n places; .inr (c, fs): an object of class c; of a field: none an int, some r a reference -/
abbrev zC : Type := Nat ⊕ (Nat × List (Option (Option Nat)))
abbrev zM : Type := Nat → Nat → Int
abbrev zS : Type := Nat × List (Option zV) × List zV × List zC × zM
/-- an instruction, and what its operand names: three numbers -/
abbrev zR : Type := Instr × Nat × Nat × Nat
def zw (x : Int) : Int := (Int32.ofInt x).toInt
def zup (M : zM) (i k : Nat) (x : Int) : zM := fun a b => if a = i ∧ b = k then x else M a b
def zcopy (M : zM) (i j sp dp n : Nat) : zM := fun a b => if a = j ∧ dp ≤ b ∧ b < dp + n then M i (sp + (b - dp)) else M a b
def znew (M : zM) (i : Nat) : zM := fun a b => if a = i then 0 else M a b
def zand (x y : Int) : Int := (Int32.ofInt x &&& Int32.ofInt y).toInt
def zor (x y : Int) : Int := (Int32.ofInt x ||| Int32.ofInt y).toInt
def zxor (x y : Int) : Int := (Int32.ofInt x ^^^ Int32.ofInt y).toInt
def zshl (x y : Int) : Int := (Int32.ofInt x <<< (Int32.ofInt y &&& 31)).toInt
def zdiv (x y : Int) : Int := (Int32.ofInt x / Int32.ofInt y).toInt
def zrem (x y : Int) : Int := (Int32.ofInt x - Int32.ofInt x / Int32.ofInt y * Int32.ofInt y).toInt
def ztgt (pc : Nat) (off : Int) : Nat := ((pc : Int) + off).toNat
/-- the fields' shapes of a new object of class c -/
def zsof (zdef : Nat → List Bool) (c : Nat) : List (Option (Option Nat)) := (zdef c).map fun b => if b then some none else none
def zld (ls : List (Option zV)) (i : Nat) : Option Int := match ls[i]? with
  | some (some (.inl x)) => some x
  | _ => none
def zldr (ls : List (Option zV)) (i : Nat) : Option Nat := match ls[i]? with
  | some (some (.inr (some x))) => some x
  | _ => none
/-- one step of an instruction that neither calls nor returns -/
def zstep (zdef : Nat → List Bool) (r : zR) (s : zS) : Option zS := match s with
  | (pc, ls, st, S, M) => match r with
    | (ins, ra, rb, rt) => match ins with
      | .iconst n => some (pc + 1, ls, .inl n :: st, S, M)
      | .bipush n => some (pc + 2, ls, .inl n :: st, S, M)
      | .sipush n => some (pc + 3, ls, .inl n :: st, S, M)
      | .iload_n k => match zld ls k.val with
        | some x => some (pc + 1, ls, .inl x :: st, S, M)
        | none => none
      | .iload k => match zld ls k with
        | some x => some (pc + 2, ls, .inl x :: st, S, M)
        | none => none
      | .aload_n k => match zldr ls k.val with
        | some x => some (pc + 1, ls, .inr (some x) :: st, S, M)
        | none => none
      | .aload k => match zldr ls k with
        | some x => some (pc + 2, ls, .inr (some x) :: st, S, M)
        | none => none
      | .istore_n k => match st with
        | .inl x :: st' => if k.val < ls.length then some (pc + 1, ls.set k.val (some (.inl x)), st', S, M) else none
        | _ => none
      | .istore k => match st with
        | .inl x :: st' => if k < ls.length then some (pc + 2, ls.set k (some (.inl x)), st', S, M) else none
        | _ => none
      | .astore_n k => match st with
        | .inr (some x) :: st' => if k.val < ls.length then some (pc + 1, ls.set k.val (some (.inr (some x))), st', S, M) else none
        | _ => none
      | .astore k => match st with
        | .inr (some x) :: st' => if k < ls.length then some (pc + 2, ls.set k (some (.inr (some x))), st', S, M) else none
        | _ => none
      | .iinc k n => match zld ls k with
        | some x => some (pc + 3, ls.set k (some (.inl (x + n))), st, S, M)
        | none => none
      | .iadd => match st with
        | .inl y :: .inl x :: st' => some (pc + 1, ls, .inl (x + y) :: st', S, M)
        | _ => none
      | .isub => match st with
        | .inl y :: .inl x :: st' => some (pc + 1, ls, .inl (x - y) :: st', S, M)
        | _ => none
      | .imul => match st with
        | .inl y :: .inl x :: st' => some (pc + 1, ls, .inl (x * y) :: st', S, M)
        | _ => none
      | .iand => match st with
        | .inl y :: .inl x :: st' => some (pc + 1, ls, .inl (zand x y) :: st', S, M)
        | _ => none
      | .ior => match st with
        | .inl y :: .inl x :: st' => some (pc + 1, ls, .inl (zor x y) :: st', S, M)
        | _ => none
      | .ixor => match st with
        | .inl y :: .inl x :: st' => some (pc + 1, ls, .inl (zxor x y) :: st', S, M)
        | _ => none
      | .ishl => match st with
        | .inl y :: .inl x :: st' => some (pc + 1, ls, .inl (zshl x y) :: st', S, M)
        | _ => none
      | .idiv => match st with
        | .inl y :: .inl x :: st' => if zw y ≠ 0 then some (pc + 1, ls, .inl (zdiv x y) :: st', S, M) else none
        | _ => none
      | .irem => match st with
        | .inl y :: .inl x :: st' => if zw y ≠ 0 then some (pc + 1, ls, .inl (zrem x y) :: st', S, M) else none
        | _ => none
      | .dup => match st with
        | v :: st' => some (pc + 1, ls, v :: v :: st', S, M)
        | _ => none
      | .dup2 => match st with
        | v :: u :: st' => some (pc + 1, ls, v :: u :: v :: u :: st', S, M)
        | _ => none
      | .goto off => some (ztgt pc off, ls, st, S, M)
      | .ifCond cnd off => match st with
        | .inl x :: st' => match cnd with
          | .eq => some (if zw x = 0 then ztgt pc off else pc + 3, ls, st', S, M)
          | .ne => some (if zw x ≠ 0 then ztgt pc off else pc + 3, ls, st', S, M)
          | .lt => some (if zw x < 0 then ztgt pc off else pc + 3, ls, st', S, M)
          | .ge => some (if zw x ≥ 0 then ztgt pc off else pc + 3, ls, st', S, M)
          | .gt => some (if zw x > 0 then ztgt pc off else pc + 3, ls, st', S, M)
          | .le => some (if zw x ≤ 0 then ztgt pc off else pc + 3, ls, st', S, M)
        | _ => none
      | .if_icmp cnd off => match st with
        | .inl y :: .inl x :: st' => match cnd with
          | .eq => some (if zw x = zw y then ztgt pc off else pc + 3, ls, st', S, M)
          | .ne => some (if zw x ≠ zw y then ztgt pc off else pc + 3, ls, st', S, M)
          | .lt => some (if zw x < zw y then ztgt pc off else pc + 3, ls, st', S, M)
          | .ge => some (if zw x ≥ zw y then ztgt pc off else pc + 3, ls, st', S, M)
          | .gt => some (if zw x > zw y then ztgt pc off else pc + 3, ls, st', S, M)
          | .le => some (if zw x ≤ zw y then ztgt pc off else pc + 3, ls, st', S, M)
        | _ => none
      | .tableswitch dflt lo hi offs => match st with
        | .inl x :: st' => if zw x < lo ∨ hi < zw x then some (ztgt pc dflt, ls, st', S, M) else match offs.toList[(zw x - lo).toNat]? with
          | some off => some (ztgt pc off, ls, st', S, M)
          | none => none
        | _ => none
      | .lookupswitch dflt ps => match st with
        | .inl x :: st' => some (ztgt pc (Op.lookupswitch.offset ps.toList dflt (zw x)), ls, st', S, M)
        | _ => none
      | .getfield _ => match st with
        | .inr (some j) :: st' => match j, S[j]? with
          | _ + 1, some (.inr (c, fs)) => if c = ra then match fs[rb]? with
            | some none => some (pc + 3, ls, .inl (M j rb) :: st', S, M)
            | some (some r) => some (pc + 3, ls, .inr r :: st', S, M)
            | none => none else none
          | _, _ => none
        | _ => none
      | .putfield _ => match st with
        | .inl x :: .inr (some j) :: st' => match j, S[j]? with
          | _ + 1, some (.inr (c, fs)) => if c = ra ∧ rt < 2 ∧ (rt = 1 → x = 0 ∨ x = 1) then match fs[rb]? with
            | some none => some (pc + 3, ls, st', S, zup M j rb x)
            | _ => none else none
          | _, _ => none
        | .inr r :: .inr (some j) :: st' => match j, S[j]? with
          | _ + 1, some (.inr (c, fs)) => if c = ra ∧ rt = 2 then match fs[rb]? with
            | some (some _) => some (pc + 3, ls, st', S.set j (.inr (c, fs.set rb (some r))), M)
            | _ => none else none
          | _, _ => none
        | _ => none
      | .iaload => match st with
        | .inl i :: .inr (some j) :: st' => match S[j]? with
          | some (.inl n) => if 0 ≤ zw i ∧ zw i < n then some (pc + 1, ls, .inl (M j (zw i).toNat) :: st', S, M) else none
          | _ => none
        | _ => none
      | .iastore => match st with
        | .inl x :: .inl i :: .inr (some j) :: st' => match j, S[j]? with
          | _ + 1, some (.inl n) => if 0 ≤ zw i ∧ zw i < n then some (pc + 1, ls, st', S, zup M j (zw i).toNat x) else none
          | _, _ => none
        | _ => none
      | .arraylength => match st with
        | .inr (some j) :: st' => match S[j]? with
          | some (.inl n) => some (pc + 1, ls, .inl (n : Int) :: st', S, M)
          | _ => none
        | _ => none
      | .new _ => some (pc + 3, ls, .inr (some S.length) :: st, S ++ [.inr (ra, zsof zdef ra)], znew M S.length)
      | .newarray _ => match st with
        | .inl n :: st' => if 0 ≤ zw n ∧ zw n ≤ 65536 then some (pc + 2, ls, .inr (some S.length) :: st', S ++ [.inl (zw n).toNat], znew M S.length) else none
        | _ => none
      | .invokespecial _ => match st with
        | .inr (some _) :: st' => if st'.length ≤ 8 then some (pc + 3, ls, st', S, M) else none
        | _ => none
      | .invokestatic _ => match st with
        | .inl n :: .inl dp :: .inr (some j) :: .inl sp :: .inr (some i) :: st' => match i, j, S[i]?, S[j]? with
          | _ + 1, _ + 1, some (.inl n0), some (.inl n1) => if st'.length ≤ 8 ∧ 0 ≤ zw sp ∧ 0 ≤ zw dp ∧ 0 ≤ zw n ∧ zw sp + zw n ≤ n0 ∧ zw dp + zw n ≤ n1 then some (pc + 3, ls, st', S, zcopy M i j (zw sp).toNat (zw dp).toNat (zw n).toNat) else none
          | _, _, _, _ => none
        | _ => none
      | _ => none
/-- what an instruction is: 0 a step, 1 a call, 2 an end -/
def zkind (r : zR) : Nat := match r with
  | (.ireturn, _, _, _) => 2
  | (.return_, _, _, _) => 2
  | (.invokevirtual _, _, _, _) => 1
  | (.invokestatic _, _, _, t) => if t = 3 then 0 else 1
  | (.invokespecial _, _, _, t) => if t = 1 then 0 else 1
  | _ => 0
/-- a call: whom, with what, and what stays on the stack. (rt of invokevirtual: 4 and the receiver's class) -/
def zcall (r : zR) (s : zS) : Option (Nat × List zV × List zV) := match s with
  | (_, _, st, S, _) => match r with
    | (ins, ra, rb, rt) => match ins with
      | .invokestatic _ => if rb ≤ st.length ∧ st.length ≤ rb + 8 then some (ra, (st.take rb).reverse, st.drop rb) else none
      | .invokespecial _ => match st[rb]? with
        | some (.inr (some _)) => if st.length ≤ rb + 9 then some (ra, (st.take (rb + 1)).reverse, st.drop (rb + 1)) else none
        | _ => none
      | .invokevirtual _ => match st[rb]? with
        | some (.inr (some j)) => match j, S[j]? with
          | _ + 1, some (.inr (c, _)) => if c = rt / 4 ∧ st.length ≤ rb + 9 then some (ra, (st.take (rb + 1)).reverse, st.drop (rb + 1)) else none
          | _, _ => none
        | _ => none
      | _ => none
/-- an end: the answer -/
def zret (r : zR) (s : zS) : Option (Option zV) := match s with
  | (_, _, st, _, _) => match r with
    | (ins, _, _, rt) => match ins with
      | .return_ => match st with
        | [] => some none
        | _ => none
      | .ireturn => match st with
        | [.inl x] => if rt = 1 → x = 0 ∨ x = 1 then some (some (.inl x)) else none
        | _ => none
      | _ => none
def zGo (zdef : Nat → List Bool) (C : Nat → List zV → List zC → zM → Option zV → List zC → zM → Prop) (cd : List (Option zR)) : Nat → zS → Option zV → List zC → zM → Prop
  | 0, _, _, _, _ => False
  | n + 1, s, r, S', M' => ∃ w, cd[s.1]? = some (some w) ∧
      ((zkind w = 0 ∧ ∃ s', zstep zdef w s = some s' ∧ zGo zdef C cd n s' r S' M') ∨
       (zkind w = 1 ∧ ∃ k as rest v S1 M1, zcall w s = some (k, as, rest) ∧ C k as s.2.2.2.1 s.2.2.2.2 v S1 M1 ∧ zGo zdef C cd n (s.1 + 3, s.2.1, v.toList ++ rest, S1, M1) r S' M') ∨
       (zkind w = 2 ∧ zret w s = some r ∧ S' = s.2.2.2.1 ∧ M' = s.2.2.2.2))
/-- a method's first locals -/
def zent (n : Nat) (as : List zV) : List (Option zV) := as.map some ++ List.replicate (n - as.length) none
