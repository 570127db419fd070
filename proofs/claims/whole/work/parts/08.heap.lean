/-! ONE STEP, of the instructions that touch the heap, and of switches -/
section ZU
variable {p : Program} {l : Launch} {e : Env} {R : Room} {s : State} {m : MethodId} {args : Array Value} {below : List Frame} {meth : Method} {c : Code} {Q : State → Prop} {H : Heap} {locs : List Loc} {cells slots : Nat}
variable {E : zE} {D : va_G} {cI : ClassId} {b base L : Nat} {xs : Nat → Int32} {n0 z0 pc ra rb rt : Nat} {ls : List (Option zV)} {st : List zV} {S : List zC} {M : zM} {s2 : zS} {lsA : Array Slot}
theorem zs_tableswitch {dflt lo hi : Int} {offs : Array Int} (X : zCx p s m args meth c E D cI b base L xs n0) (hw : zok E pc (.tableswitch dflt lo hi offs, ra, rb, rt) = true) (hs : zstep zdef (.tableswitch dflt lo hi offs, ra, rb, rt) (pc, ls, st, S, M) = some s2) (F : zFt D cI b base L xs s ls S M H locs lsA) (hc : cells + n0 = S.length) (hz : slots + z0 = zsl S) (kk : zKK p l e R s m args below meth c Q D cI b base L xs n0 z0 s2) : W p l e R s m args below meth c H locs cells slots Q (F0 m pc lsA (st.map (zcv b base))) := by
  obtain ⟨hx, hb, hml, hown, hts, hname, hK, hX, hbb, hsz, hn0, hN⟩ := X
  obtain ⟨hl, hP, hS, hS0, hM0⟩ := F
  have hw : (zdec E pc (.tableswitch dflt lo hi offs) (offs.size * 4 + 16 - pc % 4) && decide (0 ≤ (pc : Int) + dflt) && offs.toList.all (fun off => decide (0 ≤ (pc : Int) + off))) = true := hw
  simp only [Bool.and_eq_true] at hw
  obtain ⟨⟨hd, h0⟩, h1⟩ := hw
  have hd : decode E.2.1 pc = .ok (.tableswitch dflt lo hi offs, offs.size * 4 + 16 - pc % 4) := of_decide_eq_true hd
  rcases st with _ | ⟨x | x, st⟩
  · cases hs
  rotate_left
  · cases hs
  have hs : (if zw x < lo ∨ hi < zw x then some (ztgt pc dflt, ls, st, S, M) else match offs.toList[(zw x - lo).toNat]? with
    | some off => some (ztgt pc off, ls, st, S, M)
    | none => none) = some s2 := hs
  by_cases hh : zw x < lo ∨ hi < zw x
  · rw [if_pos hh] at hs
    cases hs
    exact lv_tableOut hx hb hd hh (ztgt_ok (of_decide_eq_true h0)) (kk H locs lsA cells slots ⟨hl, hP, hS, hS0, hM0⟩ hc hz)
  · rw [if_neg hh] at hs
    cases hq : offs.toList[(zw x - lo).toNat]? with
    | none => rw [hq] at hs; cases hs
    | some off =>
      rw [hq] at hs
      cases hs
      have h2 := of_decide_eq_true (List.all_eq_true.mp h1 off (List.mem_of_getElem? hq))
      exact lv_tableIn hx hb hd (fun z => hh (Or.inl z)) (fun z => hh (Or.inr z)) (by rw [← Array.getElem?_toList]; exact hq) (ztgt_ok h2) (kk H locs lsA cells slots ⟨hl, hP, hS, hS0, hM0⟩ hc hz)
theorem zlook {P : Int → Prop} {d x : Int} (h0 : P d) : ∀ (ps : List (Int × Int)), (∀ q ∈ ps, P q.2) → P (Op.lookupswitch.offset ps d x)
  | [], _ => h0
  | (a, o) :: r, h => by
    rw [Op.lookupswitch.offset_cons]
    split
    · exact h (a, o) List.mem_cons_self
    · exact zlook h0 r (fun q hq => h q (List.mem_cons_of_mem _ hq))
theorem zs_lookupswitch {dflt : Int} {ps : Array (Int × Int)} (X : zCx p s m args meth c E D cI b base L xs n0) (hw : zok E pc (.lookupswitch dflt ps, ra, rb, rt) = true) (hs : zstep zdef (.lookupswitch dflt ps, ra, rb, rt) (pc, ls, st, S, M) = some s2) (F : zFt D cI b base L xs s ls S M H locs lsA) (hc : cells + n0 = S.length) (hz : slots + z0 = zsl S) (kk : zKK p l e R s m args below meth c Q D cI b base L xs n0 z0 s2) : W p l e R s m args below meth c H locs cells slots Q (F0 m pc lsA (st.map (zcv b base))) := by
  obtain ⟨hx, hb, hml, hown, hts, hname, hK, hX, hbb, hsz, hn0, hN⟩ := X
  obtain ⟨hl, hP, hS, hS0, hM0⟩ := F
  have hw : (zdec E pc (.lookupswitch dflt ps) (ps.size * 8 + 12 - pc % 4) && (ps.toList.zip (ps.toList.drop 1)).all (fun (a, next) => a.1 < next.1) && decide (0 ≤ (pc : Int) + dflt) && ps.toList.all (fun q => decide (0 ≤ (pc : Int) + q.2))) = true := hw
  rw [Bool.and_eq_true, Bool.and_eq_true, Bool.and_eq_true] at hw
  obtain ⟨⟨⟨hd, h3⟩, h0⟩, h1⟩ := hw
  have hd : decode E.2.1 pc = .ok (.lookupswitch dflt ps, ps.size * 8 + 12 - pc % 4) := of_decide_eq_true hd
  rcases st with _ | ⟨x | x, st⟩
  · cases hs
  rotate_left
  · cases hs
  cases hs
  have h2 : 0 ≤ (pc : Int) + Op.lookupswitch.offset ps.toList dflt (zw x) := zlook (P := fun o => 0 ≤ (pc : Int) + o) (of_decide_eq_true h0) ps.toList (fun q hq => of_decide_eq_true (List.all_eq_true.mp h1 q hq))
  exact lv_lookup hx hb hd h3 rfl (ztgt_ok h2) (kk H locs lsA cells slots ⟨hl, hP, hS, hS0, hM0⟩ hc hz)
theorem zs_getfield {idx : Nat} (X : zCx p s m args meth c E D cI b base L xs n0) (hw : zok E pc (.getfield idx, ra, rb, rt) = true) (hs : zstep zdef (.getfield idx, ra, rb, rt) (pc, ls, st, S, M) = some s2) (F : zFt D cI b base L xs s ls S M H locs lsA) (hc : cells + n0 = S.length) (hz : slots + z0 = zsl S) (kk : zKK p l e R s m args below meth c Q D cI b base L xs n0 z0 s2) : W p l e R s m args below meth c H locs cells slots Q (F0 m pc lsA (st.map (zcv b base))) := by
  obtain ⟨hx, hb, hml, hown, hts, hname, hK, hX, hbb, hsz, hn0, hN⟩ := X
  obtain ⟨hl, hP, hS, hS0, hM0⟩ := F
  obtain ⟨hd, hw⟩ := (Bool.and_eq_true _ _).mp hw
  have hd : decode E.2.1 pc = .ok (.getfield idx, 3) := of_decide_eq_true hd
  unfold zfok at hw
  cases hq : vwCl[ra]? with
  | none => rw [hq] at hw; cases hw
  | some q =>
    rw [hq] at hw
    obtain ⟨hrb, hlk⟩ := (Bool.and_eq_true _ _).mp hw
    have hrb : rb < q.2.2 := of_decide_eq_true hrb
    rcases st with _ | ⟨x | _ | j, st⟩
    · cases hs
    · cases hs
    · cases hs
    rcases j with _ | j
    · simp [zstep] at hs
    cases hS1 : S[j + 1]? with
    | none => simp [zstep, hS1] at hs
    | some cc =>
      rcases cc with n | ⟨ci, fs⟩
      · simp [zstep, hS1] at hs
      by_cases hci : ci = ra
      · subst hci
        have he := zws_get (cI := cI) (b := b) (base := base) (M := M) hS1
        cases hf : fs[rb]? with
        | none => simp [zstep, hS1, hf] at hs
        | some t =>
          have hv : (fs.mapIdx (fun k t => zfv b base (M (j + 1) k) t))[rb]? = some (zfv b base (M (j + 1) rb) t) := by rw [List.getElem?_mapIdx, hf]; rfl
          rcases t with _ | r
          · simp [zstep, hS1, hf] at hs
            subst hs
            exact va_get (D := D) (ci := ci) (C := q.1) (T := q.2.1) (N := q.2.2) hx hb hts (zu_all ci q hq) hown hK hP j he hq rb hrb (hts _ (zin_spec hlk)) (fun _ h9 => h9) hv hd (kk H locs lsA cells slots ⟨hl, hP, hS, hS0, hM0⟩ hc hz)
          · simp [zstep, hS1, hf] at hs
            subst hs
            exact va_get (D := D) (ci := ci) (C := q.1) (T := q.2.1) (N := q.2.2) hx hb hts (zu_all ci q hq) hown hK hP j he hq rb hrb (hts _ (zin_spec hlk)) (fun _ h9 => h9) hv hd (kk H locs lsA cells slots ⟨hl, hP, hS, hS0, hM0⟩ hc hz)
      · simp [zstep, hS1, hci] at hs
theorem zM0_up {M : zM} {j k : Nat} {x : Int} (h : ∀ k, k < L → Int32.ofInt (M 0 k) = xs k) : ∀ q, q < L → Int32.ofInt (zup M (j + 1) k x 0 q) = xs q := by
  intro q hq
  rw [zup_ne (by omega)]
  exact h q hq
theorem zs_putfield {idx : Nat} (X : zCx p s m args meth c E D cI b base L xs n0) (hw : zok E pc (.putfield idx, ra, rb, rt) = true) (hs : zstep zdef (.putfield idx, ra, rb, rt) (pc, ls, st, S, M) = some s2) (F : zFt D cI b base L xs s ls S M H locs lsA) (hc : cells + n0 = S.length) (hz : slots + z0 = zsl S) (kk : zKK p l e R s m args below meth c Q D cI b base L xs n0 z0 s2) : W p l e R s m args below meth c H locs cells slots Q (F0 m pc lsA (st.map (zcv b base))) := by
  obtain ⟨hx, hb, hml, hown, hts, hname, hK, hX, hbb, hsz, hn0, hN⟩ := X
  obtain ⟨hl, hP, hS, hS0, hM0⟩ := F
  obtain ⟨hw1, hpk⟩ := (Bool.and_eq_true _ _).mp hw
  obtain ⟨hd, hw⟩ := (Bool.and_eq_true _ _).mp hw1
  have hd : decode E.2.1 pc = .ok (.putfield idx, 3) := of_decide_eq_true hd
  have hD := zws_D cI b base S M
  unfold zfok at hw
  unfold zpok at hpk
  cases hq : vwCl[ra]? with
  | none => rw [hq] at hw; cases hw
  | some q =>
    rw [hq] at hw hpk
    obtain ⟨hrb, hlk⟩ := (Bool.and_eq_true _ _).mp hw
    have hrb : rb < q.2.2 := of_decide_eq_true hrb
    rcases st with _ | ⟨x | r, _ | ⟨y | _ | j, st⟩⟩
    · cases hs
    · cases hs
    · cases hs
    · cases hs
    · rcases j with _ | j
      · simp [zstep] at hs
      cases hS1 : S[j + 1]? with
      | none => simp [zstep, hS1] at hs
      | some cc =>
        rcases cc with n | ⟨ci, fs⟩
        · simp [zstep, hS1] at hs
        by_cases hci : ci = ra ∧ rt < 2 ∧ (rt = 1 → x = 0 ∨ x = 1)
        · cases hf : fs[rb]? with
          | none => simp [zstep, hS1, hf] at hs
          | some t =>
            rcases t with _ | t
            · simp only [zstep, hS1, hf, if_pos hci, Option.some.injEq] at hs
              subst hs
              obtain ⟨rfl, hrt, hx1⟩ := hci
              have he := zws_get (cI := cI) (b := b) (base := base) (M := M) hS1
              have hlen : rb < (fs.mapIdx (fun k t => zfv b base (M (j + 1) k) t)).length := by rw [List.length_mapIdx]; exact zmem_lt hf
              have fin : ∀ (H1 : Heap) (locs1 : List Loc), va_P D vwCl ((zws cI b base S M).set j (base + j, .inr (ci, (fs.mapIdx (fun k t => zfv b base (M (j + 1) k) t)).set rb (.int (Int32.ofInt x))))) H1 → va_D (fun q => base ≤ q) ((zws cI b base S M).set j (base + j, .inr (ci, (fs.mapIdx (fun k t => zfv b base (M (j + 1) k) t)).set rb (.int (Int32.ofInt x))))) → va_S (fun q => base ≤ q) s.heap H1 locs1 → W p l e R s m args below meth c H1 locs1 cells slots Q (F0 m (pc + 3) lsA (st.map (zcv b base))) := by
                intro H1 locs1 h1 _ h3
                rw [← zws_upf x hS1 hf] at h1
                exact kk H1 locs1 lsA cells slots ⟨hl, h1, h3, hS0, zM0_up (M := M) (j := j) (k := rb) (x := x) hM0⟩ hc hz
              rcases rt with _ | rt
              · obtain ⟨hf1, hf2⟩ := (Bool.and_eq_true _ _).mp hpk
                exact va_put (D := D) (ci := ci) (v := .int (Int32.ofInt x)) (ty := .int) (C := q.1) (T := q.2.1) (N := q.2.2) hx hb hts (zu_all ci q hq) (ztyp ci) (zty_all ci q hq) (znm_all ci q hq) hown hK hP hD hS j he hq rb hrb (hts _ (zin_spec hlk)) (fun _ h9 => h9) (by simpa using hf1) (of_decide_eq_true hf2) rfl rfl hlen hd fin
              · rcases rt with _ | rt
                · obtain ⟨hf1, hf2⟩ := (Bool.and_eq_true _ _).mp hpk
                  have h01 : narrow .boolean (.int (Int32.ofInt x)) = .int (Int32.ofInt x) ∧ fits .boolean (.int (Int32.ofInt x)) = true := by
                    rcases hx1 rfl with rfl | rfl
                    · decide
                    · decide
                  exact va_put (D := D) (ci := ci) (v := .int (Int32.ofInt x)) (ty := .boolean) (C := q.1) (T := q.2.1) (N := q.2.2) hx hb hts (zu_all ci q hq) (ztyp ci) (zty_all ci q hq) (znm_all ci q hq) hown hK hP hD hS j he hq rb hrb (hts _ (zin_spec hlk)) (fun _ h9 => h9) (by simpa using hf1) (of_decide_eq_true hf2) h01.1 h01.2 hlen hd fin
                · omega
            · simp [zstep, hS1, hf] at hs
        · simp only [zstep, hS1, if_neg hci] at hs
          cases hs
    · rcases r with _ | r <;> cases hs
    · rcases r with _ | r <;> cases hs
    · rcases r with _ | r <;> cases hs
    · rcases j with _ | j
      · rcases r with _ | r <;> simp [zstep] at hs
      cases hS1 : S[j + 1]? with
      | none => rcases r with _ | r <;> simp [zstep, hS1] at hs
      | some cc =>
        rcases cc with n | ⟨ci, fs⟩
        · rcases r with _ | r <;> simp [zstep, hS1] at hs
        by_cases hci : ci = ra ∧ rt = 2
        · cases hf : fs[rb]? with
          | none => rcases r with _ | r <;> simp [zstep, hS1, hf] at hs
          | some t =>
            rcases t with _ | t
            · rcases r with _ | r <;> simp [zstep, hS1, hf] at hs
            · have hs : some (pc + 3, ls, st, S.set (j + 1) (.inr (ci, fs.set rb (some r))), M) = some s2 := by
                simpa only [zstep, hS1, hf, if_pos hci] using hs
              cases hs
              obtain ⟨rfl, rfl⟩ := hci
              have he := zws_get (cI := cI) (b := b) (base := base) (M := M) hS1
              have hlen : rb < (fs.mapIdx (fun k t => zfv b base (M (j + 1) k) t)).length := by rw [List.length_mapIdx]; exact zmem_lt hf
              have hpk : ((q.2.1 rb).2.2.2 && decide (E.1.name = "<init>") && decide ((q.2.1 rb).1 = E.1.cls) && zrefty (parseFieldDescriptor (q.2.1 rb).2.2.1)) = true := hpk
              simp only [Bool.and_eq_true, decide_eq_true_eq] at hpk
              obtain ⟨⟨⟨hf1, hf2⟩, hf3⟩, hf4⟩ := hpk
              have hty : ∃ ty, parseFieldDescriptor (q.2.1 rb).2.2.1 = some ty ∧ narrow ty (zcv b base (.inr r)) = zcv b base (.inr r) ∧ fits ty (zcv b base (.inr r)) = true := by
                unfold zrefty at hf4
                cases hp : parseFieldDescriptor (q.2.1 rb).2.2.1 with
                | none => rw [hp] at hf4; cases hf4
                | some ty =>
                  rw [hp] at hf4
                  cases ty with
                  | object n => exact ⟨_, rfl, by rcases r with _ | r <;> rfl, by rcases r with _ | r <;> rfl⟩
                  | array n => exact ⟨_, rfl, by rcases r with _ | r <;> rfl, by rcases r with _ | r <;> rfl⟩
                  | _ => cases hf4
              obtain ⟨ty, ht1, ht2, ht3⟩ := hty
              refine va_putF (D := D) (ci := ci) (v := zcv b base (.inr r)) (ty := ty) (C := q.1) (T := q.2.1) (N := q.2.2) hx hb hts (zu_all ci q hq) (ztyp ci) (zty_all ci q hq) (znm_all ci q hq) hown hK hP hD hS j he hq rb hrb (hts _ (zin_spec hlk)) (fun _ h9 => h9) hf1 (hname hf2) hf3 ht1 ht2 ht3 hlen hd (fun H1 locs1 h1 h2 h3 => ?_)
              rw [← zws_upr r hS1 (zmem_lt hf)] at h1
              have hz2 : zsl (S.set (j + 1) (.inr (ci, fs.set rb (some r)))) = zsl S := by
                unfold zsl
                rw [List.map_set]
                congr 1
                refine List.ext_getElem? fun i => ?_
                rw [List.getElem?_set]
                by_cases hi : j + 1 = i
                · subst hi
                  rw [if_pos rfl, List.length_map, if_pos (zmem_lt hS1), List.getElem?_map, hS1]
                  show some _ = some _
                  simp [zsz]
                · rw [if_neg hi]
              refine kk H1 locs1 lsA cells slots ⟨hl, h1, h3, ?_, hM0⟩ (by rw [List.length_set]; exact hc) (by rw [hz2]; exact hz)
              rcases S with _ | ⟨s0, S⟩
              · cases hS0
              · exact hS0
        · have hs : (none : Option zS) = some s2 := by
            rcases r with _ | r <;> simpa only [zstep, hS1, if_neg hci] using hs
          cases hs
end ZU
