/-! A CALL OF OUR MACHINE IS A CALL OF THE JVM; every method meets its contract -/
section ZD
variable {p : Program} {l : Launch} {e : Env} {R : Room} {s : State} {m : MethodId} {args : Array Value} {below : List Frame} {meth : Method} {c : Code} {Q : State → Prop} {H : Heap} {locs : List Loc} {cells slots : Nat}
variable {E : zE} {D : va_G} {cI : ClassId} {b base L : Nat} {xs : Nat → Int32} {n0 z0 pc d k ra rb rt : Nat} {ls : List (Option zV)} {st as rest : List zV} {S S1 : List zC} {M M1 : zM} {lsA : Array Slot} {v : Option zV} {w : zR}
set_option maxHeartbeats 4000000 in
theorem zcall_sound (IH : zCon l D cI b base L xs d) (X : zCx p s m args meth c E D cI b base L xs n0) (hw : zok E pc w = true) (hk : zkind w = 1) (hcall : zcall w (pc, ls, st, S, M) = some (k, as, rest)) (hC : zCR d k as S M v S1 M1) (F : zFt D cI b base L xs s ls S M H locs lsA) (hc : cells + n0 = S.length) (hz : slots + z0 = zsl S) (hll : ls.length = E.2.2.1) (hRf : d + 1 ≤ R.frames) (hRl : 80 + 40 * (d + 1) ≤ R.locals) (hRc : S1.length ≤ R.cells + n0) (hRz : zsl S1 ≤ R.slots + z0)
    (kk : ∀ (H1 : Heap) (locs1 : List Loc), zFt D cI b base L xs s ls S1 M1 H1 locs1 lsA → W p l e R s m args below meth c H1 locs1 (cells + (S1.length - S.length)) (slots + (zsl S1 - zsl S)) Q (F0 m (pc + 3) lsA ((v.toList ++ rest).map (zcv b base)))) : W p l e R s m args below meth c H locs cells slots Q (F0 m pc lsA (st.map (zcv b base))) := by
  have X0 := X
  have F0' := F
  obtain ⟨hx, hb, hml, hown, hts, hname, hK, hX, hbb, hsz, hn0, hN⟩ := X
  obtain ⟨hl, hP, hS, hS0, hM0⟩ := F
  refine zW_size (fun h1 h2 => ?_)
  have hH := zsize hP hsz hn0 hc h1 h2
  have hmono := zcr_mono d k as S M v S1 M1 hC
  have hf : cells + (S1.length - S.length) ≤ R.cells ∧ slots + (zsl S1 - zsl S) ≤ R.slots := ⟨by omega, by omega⟩
  have hsize : lsA.size = E.2.2.1 := by
    obtain ⟨lv, h3, -⟩ := hl
    rw [h3.1, hll]
  have fact : ∀ {k : Nat} {E' : zE} {rb : Nat} {stt : Bool}, zmt[k]? = some E' → E'.2.2.2.2.1 = rb → E'.2.2.2.2.2.1 = stt → (if stt then Cond.static E'.1 else Cond.instanceMethod E'.1) ∈ zT ∧ (Cond.initialized E'.1.cls) ∈ zT ∧ (E'.1.cls ≠ "java/lang/invoke/MethodHandle" ∧ E'.1.cls ≠ "java/lang/invoke/VarHandle" ∧ (parseMethodDescriptor E'.1.desc).map (fun d => d.parameters.length) = some rb) ∧ E'.2.2.1 ≤ 20 := by
    intro k E' rb stt hE h3 h4
    obtain ⟨-, q, -, hq, -⟩ := zmeth hE
    unfold zmok at hq
    simp only [Bool.and_eq_true, decide_eq_true_eq] at hq
    obtain ⟨⟨⟨⟨⟨⟨⟨q1, q2⟩, q3⟩, q4⟩, q5⟩, q6⟩, -⟩, -⟩ := hq
    subst h3; subst h4
    exact ⟨zin_spec q1, zin_spec q2, ⟨q3, q4, q5⟩, q6⟩
  obtain ⟨ins, ra, rb, rt⟩ := w
  cases ins
  case invokestatic idx =>
    obtain ⟨hd, hw⟩ := (Bool.and_eq_true _ _).mp hw
    have hd : decode E.2.1 pc = .ok (.invokestatic idx, 3) := of_decide_eq_true hd
    have hcall : (if rb ≤ st.length ∧ st.length ≤ rb + 8 then some (ra, (st.take rb).reverse, st.drop rb) else none) = some (k, as, rest) := hcall
    by_cases hh : rb ≤ st.length ∧ st.length ≤ rb + 8
    · rw [if_pos hh] at hcall
      simp only [Option.some.injEq, Prod.mk.injEq] at hcall
      obtain ⟨rfl, rfl, rfl⟩ := hcall
      have hlen : (((st.take rb).reverse).map (zcv b base)).length = rb := by simp; omega
      have hroom : 2 * (F0 m pc lsA (st.map (zcv b base))).monitorRoom + (((st.drop rb).map (zcv b base)).map fun v => v.category).sum ≤ 8 := lv_room (by rw [zcat_sum, List.length_drop]; omega)
      rcases rt with _ | _ | _ | rt
      · obtain ⟨hw1, hw2⟩ := (Bool.and_eq_true _ _).mp hw
        unfold zkok at hw1
        unfold zlok at hw2
        cases hE : zmt[ra]? with
        | none => rw [hE] at hw1; cases hw1
        | some E' =>
          rw [hE] at hw1 hw2
          obtain ⟨g1, g2⟩ := (Bool.and_eq_true _ _).mp hw1
          obtain ⟨f1, f2, f3, f4⟩ := fact hE (of_decide_eq_true g1) (by simpa using g2)
          have hM := IH ra E' _ S M v S1 M1 hE hC hS0 hM0
          have cb : CallB R s args E.1.cls idx E'.1 E'.2.1 E'.2.2.1 E'.2.2.2.1 (zwd E') (zrm d (S1.length - S.length) (zsl S1 - zsl S)) (S1.length - S.length) (zsl S1 - zsl S) rb := callB_of rb hts (zGoodIn hE) rfl rfl rfl (hts _ f2) (hts _ (zin_spec hw2)) f3 ⟨hRf, by show 8 + (E'.2.2.1 + 11) + (80 + 40 * d) ≤ R.locals; omega⟩
          exact zrun_W (va_runS (g := F0 m pc lsA (st.map (zcv b base))) ⟨hx, hb, hml, hown, hts⟩ hM ⟨cb, hts _ f1⟩ (zpre X0 F0' hH _) rfl hlen hsize (ztake b base) hroom hd hf) hl hS kk
      · cases hw
      · obtain ⟨hw1, hw2⟩ := (Bool.and_eq_true _ _).mp hw
        unfold zkok at hw1
        unfold znok at hw2
        cases hE : zmt[ra]? with
        | none => rw [hE] at hw1; cases hw1
        | some E' =>
          rw [hE] at hw1 hw2
          obtain ⟨g1, g2⟩ := (Bool.and_eq_true _ _).mp hw1
          obtain ⟨f1, f2, f3, f4⟩ := fact hE (of_decide_eq_true g1) (by simpa using g2)
          obtain ⟨q, hq, hq2⟩ := List.any_eq_true.mp hw2
          simp only [Bool.and_eq_true, decide_eq_true_eq] at hq2
          obtain ⟨⟨q1, q2⟩, q3⟩ := hq2
          have hNq := hN q hq
          rw [q1, q2, q3] at hNq
          have hM := IH ra E' _ S M v S1 M1 hE hC hS0 hM0
          have cb : va_CN R s args E.1.cls idx E'.1 q.2.2.2 E'.2.1 E'.2.2.1 E'.2.2.2.1 (zwd E') (zrm d (S1.length - S.length) (zsl S1 - zsl S)) (S1.length - S.length) (zsl S1 - zsl S) rb := va_cnB rb hts (zGoodIn hE) rfl rfl rfl hNq (hts _ f2) f3 ⟨hRf, by show 8 + (E'.2.2.1 + 11) + (80 + 40 * d) ≤ R.locals; omega⟩
          exact zrun_W (va_runSN (g := F0 m pc lsA (st.map (zcv b base))) ⟨hx, hb, hml, hown, hts⟩ hM ⟨cb, hts _ f1, trivial⟩ (zpre X0 F0' hH _) rfl hlen hsize (ztake b base) hroom hd hf) hl hS kk
      · rcases rt with _ | rt
        · cases hk
        · cases hw
    · rw [if_neg hh] at hcall
      cases hcall
  case invokespecial idx =>
    obtain ⟨hd, hw⟩ := (Bool.and_eq_true _ _).mp hw
    have hd : decode E.2.1 pc = .ok (.invokespecial idx, 3) := of_decide_eq_true hd
    cases hu : st[rb]? with
    | none => simp [zcall, hu] at hcall
    | some u =>
      rcases u with x | _ | j
      · simp [zcall, hu] at hcall
      · simp [zcall, hu] at hcall
      have hcall : (if st.length ≤ rb + 9 then some (ra, (st.take (rb + 1)).reverse, st.drop (rb + 1)) else none) = some (k, as, rest) := by simpa only [zcall, hu] using hcall
      by_cases hh : st.length ≤ rb + 9
      · rw [if_pos hh] at hcall
        simp only [Option.some.injEq, Prod.mk.injEq] at hcall
        obtain ⟨rfl, rfl, rfl⟩ := hcall
        have hrb := zmem_lt hu
        have hlen : (((st.take rb).reverse).map (zcv b base)).length = rb := by simp; omega
        have hroom : 2 * (F0 m pc lsA (st.map (zcv b base))).monitorRoom + (((st.drop (rb + 1)).map (zcv b base)).map fun v => v.category).sum ≤ 8 := lv_room (by rw [zcat_sum, List.length_drop]; omega)
        have hst : st.map (zcv b base) = (((st.take rb).reverse).map (zcv b base)).reverse ++ .ref (zad b base j) :: (st.drop (rb + 1)).map (zcv b base) := by
          rw [ztake (n := rb + 1) b base, ztake1 hu]
          simp [zcv]
        rcases rt with _ | _ | rt
        · have hw : (zkok ra rb false && zlok E idx ra && zspok ra) = true := hw
          simp only [Bool.and_eq_true] at hw
          obtain ⟨⟨hw1, hw2⟩, hw3⟩ := hw
          unfold zkok at hw1
          unfold zlok at hw2
          unfold zspok at hw3
          cases hE : zmt[ra]? with
          | none => rw [hE] at hw1; cases hw1
          | some E' =>
            rw [hE] at hw1 hw2 hw3
            obtain ⟨g1, g2⟩ := (Bool.and_eq_true _ _).mp hw1
            obtain ⟨f1, f2, f3, f4⟩ := fact hE (of_decide_eq_true g1) (by simpa using g2)
            obtain ⟨i1, i2⟩ := (Bool.and_eq_true _ _).mp hw3
            have i2 : E'.2.2.2.1 = none := by simpa using i2
            have hM := IH ra E' _ S M v S1 M1 hE hC hS0 hM0
            have hwd : zwd E' = Cond.code E'.1 E'.2.1 E'.2.2.1 none :: zT := by unfold zwd; rw [i2]
            have cb : CallB R s args E.1.cls idx E'.1 E'.2.1 E'.2.2.1 none (zwd E') (zrm d (S1.length - S.length) (zsl S1 - zsl S)) (S1.length - S.length) (zsl S1 - zsl S) rb := callB_of rb hts (zGoodIn hE) hwd rfl rfl (hts _ f2) (hts _ (zin_spec hw2)) f3 ⟨hRf, by show 8 + (E'.2.2.1 + 11) + (80 + 40 * d) ≤ R.locals; omega⟩
            have hp := zpre X0 F0' hH (st.take (rb + 1)).reverse
            rw [ztake1 hu] at hp hM
            exact zrun_W (va_runI (g := F0 m pc lsA (st.map (zcv b base))) (b := zad b base j) (As := ((st.take rb).reverse).map (zcv b base)) ⟨hx, hb, hml, hown, hts⟩ hM ⟨cb, of_decide_eq_true i1, hts _ f1⟩ hp rfl hlen hsize hst hroom hd hf) hl hS kk
        · cases hk
        · cases hw
      · rw [if_neg hh] at hcall
        cases hcall
  case invokevirtual idx =>
    have hw : (zdec E pc (.invokevirtual idx) 3 && zkok ra rb false && zlok E idx ra && zvok ra rt) = true := hw
    simp only [Bool.and_eq_true] at hw
    obtain ⟨⟨⟨hd, hw1⟩, hw2⟩, hw3⟩ := hw
    have hd : decode E.2.1 pc = .ok (.invokevirtual idx, 3) := of_decide_eq_true hd
    cases hu : st[rb]? with
    | none => simp [zcall, hu] at hcall
    | some u =>
      rcases u with x | _ | j
      · simp [zcall, hu] at hcall
      · simp [zcall, hu] at hcall
      rcases j with _ | j
      · simp [zcall, hu] at hcall
      cases hS1 : S[j + 1]? with
      | none => simp [zcall, hu, hS1] at hcall
      | some cc =>
        rcases cc with n | ⟨ci, fs⟩
        · simp [zcall, hu, hS1] at hcall
        by_cases hh : ci = rt / 4 ∧ st.length ≤ rb + 9
        · simp only [zcall, hu, hS1, if_pos hh] at hcall
          simp only [Option.some.injEq, Prod.mk.injEq] at hcall
          obtain ⟨rfl, rfl, rfl⟩ := hcall
          obtain ⟨rfl, hh⟩ := hh
          have hrb := zmem_lt hu
          have hlen : (((st.take rb).reverse).map (zcv b base)).length = rb := by simp; omega
          have hroom : 2 * (F0 m pc lsA (st.map (zcv b base))).monitorRoom + (((st.drop (rb + 1)).map (zcv b base)).map fun v => v.category).sum ≤ 8 := lv_room (by rw [zcat_sum, List.length_drop]; omega)
          have hst : st.map (zcv b base) = (((st.take rb).reverse).map (zcv b base)).reverse ++ .ref (base + j) :: (st.drop (rb + 1)).map (zcv b base) := by
            rw [ztake (n := rb + 1) b base, ztake1 hu]
            simp [zcv, zad]
          unfold zkok at hw1
          unfold zlok at hw2
          unfold zvok at hw3
          cases hE : zmt[ra]? with
          | none => rw [hE] at hw1; cases hw1
          | some E' =>
            rw [hE] at hw1 hw2 hw3
            cases hp1 : zmp[ra]? with
            | none => rw [hp1] at hw3; cases hw3
            | some pp =>
              rw [hp1] at hw3
              cases hq1 : vwCl[rt / 4]? with
              | none => rw [hq1] at hw3; cases hw3
              | some q =>
                rw [hq1] at hw3
                obtain ⟨v1, v2⟩ := (Bool.and_eq_true _ _).mp hw3
                have v1 : q.1 = E'.1.cls := of_decide_eq_true v1
                obtain ⟨g1, g2⟩ := (Bool.and_eq_true _ _).mp hw1
                obtain ⟨f1, f2, f3, f4⟩ := fact hE (of_decide_eq_true g1) (by simpa using g2)
                have hM := IH ra E' _ S M v S1 M1 hE hC hS0 hM0
                have cb : CallB R s args E.1.cls idx E'.1 E'.2.1 E'.2.2.1 E'.2.2.2.1 (zwd E') (zrm d (S1.length - S.length) (zsl S1 - zsl S)) (S1.length - S.length) (zsl S1 - zsl S) rb := callB_of rb hts (zGoodIn hE) rfl rfl rfl (hts _ f2) (hts _ (zin_spec hw2)) f3 ⟨hRf, by show 8 + (E'.2.2.1 + 11) + (80 + 40 * d) ≤ R.locals; omega⟩
                have hp := zpre X0 F0' hH (st.take (rb + 1)).reverse
                rw [ztake1 hu] at hp hM
                have hrc := va_recv hK hP hq1 (zws_get (cI := cI) (b := b) (base := base) (M := M) hS1)
                rw [v1] at hrc
                exact zrun_W (va_runV (C := E'.1.cls) (g := F0 m pc lsA (st.map (zcv b base))) (b := base + j) (As := ((st.take rb).reverse).map (zcv b base)) ⟨hx, hb, hml, hown, hts⟩ hM ⟨cb, hts _ f1, hts _ (zin_spec v2)⟩ ⟨hp.1, hrc, hp.2⟩ rfl hlen hsize hst hroom hd hf) hl hS kk
        · simp only [zcall, hu, hS1, if_neg hh] at hcall
          cases hcall
  all_goals cases hk
end ZD
