/-! THE CLAIM OUT OF A CLAIM OF OUR MACHINE ALONE -/
/-- on every script of at most 3072 ints our machine's run of the law's body answers 1, within the room -/
def zPure : Prop := ∀ (L : Nat) (f : Nat → Int), L ≤ 3072 → (∀ k, -2147483648 ≤ f k ∧ f k < 2147483648) → ∃ (n : Nat) (S' : List zC) (M' : zM), zGo zdef (zCR 40) tL_law n (0, [some (.inr (some 0)), none, none, none], [], [.inl L], fun a k => if a = 0 then f k else 0) (some (.inl 1)) S' M' ∧ S'.length ≤ 600001 ∧ zsl S' ≤ 7302250 + L
theorem zlaw_code : eL_law.2.1 = code := rfl
set_option maxRecDepth 100000 in
theorem zwhole (hpure : zPure) {p : Program} {e : Env} {s : State} {m : MethodId} {below : List Frame} {meth : Method} {c : Code} (l : Launch) {b L : Nat} {xs : Nat → Int32} (hL : L ≤ 3072) (C0 : lw_At p s m meth c b L xs) : W p l e room_1 s m #[Value.ref b] below meth c s.heap [] 0 0 (lw_Z below #[Value.ref b] s) (entryFrame m ([Value.ref b] : List Value).toArray 4) := by
  obtain ⟨hx, hb, hr, hml, hown, hts0, hX, hbl, hlocks, hgv⟩ := C0
  have hts : ∀ w ∈ zT, w.before #[Value.ref b] s = true := fun w hw => hts0 w (List.mem_filter.mp hw).1
  obtain ⟨n, S', M', hgo, hS', hZ'⟩ := hpure L (fun k => (xs k).toInt) hL (fun k => ⟨Int32.le_toInt _, Int32.toInt_lt _⟩)
  -- the classes' numbers and slots
  have hkn : ∀ c0 : Nat, ∃ x : ClassId × (Nat → Nat), ∀ q : vw_C, vwCl[c0]? = some q → u_Kn s q.1 q.2.1 q.2.2 x.1 x.2 := by
    intro c0
    cases hq : vwCl[c0]? with
    | none => exact ⟨(0, fun _ => 0), fun q h => by cases h⟩
    | some q =>
      have hza : c0 < zci.length := by
        have h3 := zmem_lt hq
        exact h3
      have hzi := List.all_eq_true.mp zci_ok (q, zci[c0]) (List.mem_of_getElem? (i := c0) (by rw [List.getElem?_zip_eq_some]; exact ⟨hq, List.getElem?_eq_getElem hza⟩))
      obtain ⟨hi1, hi2⟩ := (Bool.and_eq_true _ _).mp hzi
      have hi1 : zin zci[c0].1 (.instantiable q.1 q.2.2) = true := hi1
      obtain ⟨cC, iS, h⟩ := u_known hts (zu_all c0 q hq) (hts _ (zin_spec hi1))
      exact ⟨(cC, iS), fun q' h' => by cases h'; exact h⟩
  let D : va_G := (fun c0 => (Classical.choose (hkn c0)).1, fun c0 => (Classical.choose (hkn c0)).2)
  have hz0 := zx_ok
  simp only [Bool.and_eq_true] at hz0
  obtain ⟨cI, kI, comp, ha1, ha2, ha3⟩ := Cond.arrayClass_spec (hts _ (zin_spec hz0.1.1.1.1))
  have hK : va_K D vwCl [(cI, .int)] s := by
    refine ⟨fun c0 q hq => Classical.choose_spec (hkn c0) q hq, fun k q hk => ?_⟩
    have hz : k < 1 := (List.getElem?_eq_some_iff.mp hk).1
    rw [show k = 0 by omega] at hk
    cases hk
    exact ⟨fun n z => ⟨fun k h => (by cases h), kI, ha2, comp, ha3⟩, ha1⟩
  have hN : zNw s := by
    intro q hq
    obtain ⟨i, hi⟩ := List.getElem?_of_mem hq
    have hil : i < znestp.length := by
      have h3 := zmem_lt hi
      exact h3
    have h1 := List.all_eq_true.mp zn_ok (q, znestp[i]) (List.mem_of_getElem? (i := i) (by rw [List.getElem?_zip_eq_some]; exact ⟨hi, List.getElem?_eq_getElem hil⟩))
    have h1 : lw_tbl[znestp[i]]? = some (.methodLinkNest q.1 q.2.1 q.2.2.1 q.2.2.2) := of_decide_eq_true h1
    exact va_Nw.of rfl (hts0 _ (List.mem_of_getElem? h1))
  rw [lg_entry_eq]
  refine zgo_sound (E := eL_law) (D := D) (cI := cI) (base := s.heap.size) (xs := xs) (n0 := 1) (z0 := zsl [.inl L]) (zcon l D cI hbl L xs 40) za_law ⟨hx, hb, hml, hown, hts, ?_, hK, hX, hbl, rfl, Nat.one_pos, hN⟩ (by decide) (by decide) (r := some (.inl 1)) (S' := S') (M' := M') ?_ ?_ ?_ n 0 [some (.inr (some 0)), none, none, none] [] [.inl L] (fun a k => if a = 0 then (xs k).toInt else 0) s.heap [] _ 0 0 hgo ⟨zentry (as := [.inr (some 0)]) b s.heap.size (by decide), fun k q h => by simp [zws] at h, va_S.rf, rfl, fun k _ => by show Int32.ofInt (if 0 = 0 then (xs k).toInt else 0) = xs k; rw [if_pos rfl, Int32.ofInt_toInt]⟩ rfl (Nat.zero_add _) rfl
  · intro h
    exact absurd h (by decide)
  · show S'.length ≤ 600000 + 1
    exact hS'
  · show zsl S' ≤ 7302250 + zsl [.inl L]
    have : zsl [(.inl L : zC)] = L := by simp [zsl, zsz]
    omega
  · intro pc w ls st H locs lsA cells slots hcd hk hr2 F hc hz
    obtain ⟨hl, hP2, hS2, hS02, hM02⟩ := F
    have hwk := zall_at za_law hcd
    obtain ⟨ins, ra, rb, rt⟩ := w
    cases ins
    case ireturn =>
      have hd := zret_dec (E := eL_law) hwk
      rw [zlaw_code] at hd
      rcases st with _ | ⟨x | u, _ | ⟨u2, st⟩⟩
      · cases hr2
      rotate_left
      · cases hr2
      · cases hr2
      · cases hr2
      have hr2 : (if rt = 1 → x = 0 ∨ x = 1 then some (some (Sum.inl x)) else none) = some (some (.inl 1)) := hr2
      have hx1 : x = 1 := by
        split at hr2
        · cases hr2
          rfl
        · cases hr2
      subst hx1
      have hzl : zsl [(.inl L : zC)] = L := by simp [zsl, zsz]
      exact va_forget hS2.2.2 (W.widen (k := 600000) (n := 7302250) (by omega) (by omega) (lw_ret hx hb hr hlocks hd))
    case return_ =>
      rcases st with _ | ⟨u, st⟩
      · cases hr2
      · cases hr2
    all_goals cases hr2
