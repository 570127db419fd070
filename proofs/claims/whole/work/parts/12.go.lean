/-! A RUN OF OUR MACHINE IS A RUN OF THE JVM -/
section ZG
variable {p : Program} {l : Launch} {e : Env} {R : Room} {s : State} {m : MethodId} {args : Array Value} {below : List Frame} {meth : Method} {c : Code} {Q : State → Prop} {H : Heap} {locs : List Loc} {cells slots : Nat}
variable {E : zE} {D : va_G} {cI : ClassId} {b base L : Nat} {xs : Nat → Int32} {n0 z0 pc d : Nat} {ls : List (Option zV)} {st : List zV} {S : List zC} {M : zM} {lsA : Array Slot} {w : zR} {s2 : zS}
theorem zstep_sound (X : zCx p s m args meth c E D cI b base L xs n0) (hw : zok E pc w = true) (hk : zkind w = 0) (hs : zstep zdef w (pc, ls, st, S, M) = some s2) (F : zFt D cI b base L xs s ls S M H locs lsA) (hc : cells + n0 = S.length) (hz : slots + z0 = zsl S) (hll : ls.length = E.2.2.1) (hRf : 1 ≤ R.frames) (hRl : 80 ≤ R.locals) (hRc : s2.2.2.2.1.length ≤ R.cells + n0) (hRz : zsl s2.2.2.2.1 ≤ R.slots + z0) (kk : zKK p l e R s m args below meth c Q D cI b base L xs n0 z0 s2) : W p l e R s m args below meth c H locs cells slots Q (F0 m pc lsA (st.map (zcv b base))) := by
  obtain ⟨ins, ra, rb, rt⟩ := w
  cases ins
  case iconst => exact zs_iconst X hw hs F hc hz kk
  case bipush => exact zs_bipush X hw hs F hc hz kk
  case sipush => exact zs_sipush X hw hs F hc hz kk
  case iload_n => exact zs_iload_n X hw hs F hc hz kk
  case iload => exact zs_iload X hw hs F hc hz kk
  case aload_n => exact zs_aload_n X hw hs F hc hz kk
  case aload => exact zs_aload X hw hs F hc hz kk
  case istore_n => exact zs_istore_n X hw hs F hc hz kk
  case istore => exact zs_istore X hw hs F hc hz kk
  case astore_n => exact zs_astore_n X hw hs F hc hz kk
  case astore => exact zs_astore X hw hs F hc hz kk
  case iinc => exact zs_iinc X hw hs F hc hz kk
  case iadd => exact zs_iadd X hw hs F hc hz kk
  case isub => exact zs_isub X hw hs F hc hz kk
  case imul => exact zs_imul X hw hs F hc hz kk
  case iand => exact zs_iand X hw hs F hc hz kk
  case ior => exact zs_ior X hw hs F hc hz kk
  case ixor => exact zs_ixor X hw hs F hc hz kk
  case ishl => exact zs_ishl X hw hs F hc hz kk
  case idiv => exact zs_idiv X hw hs F hc hz kk
  case irem => exact zs_irem X hw hs F hc hz kk
  case dup => exact zs_dup X hw hs F hc hz kk
  case dup2 => exact zs_dup2 X hw hs F hc hz kk
  case goto => exact zs_goto X hw hs F hc hz kk
  case ifCond cnd off =>
    cases cnd
    · exact zs_if_eq X hw hs F hc hz kk
    · exact zs_if_ne X hw hs F hc hz kk
    · exact zs_if_lt X hw hs F hc hz kk
    · exact zs_if_ge X hw hs F hc hz kk
    · exact zs_if_gt X hw hs F hc hz kk
    · exact zs_if_le X hw hs F hc hz kk
  case if_icmp cnd off =>
    cases cnd
    · exact zs_icmp_eq X hw hs F hc hz kk
    · exact zs_icmp_ne X hw hs F hc hz kk
    · exact zs_icmp_lt X hw hs F hc hz kk
    · exact zs_icmp_ge X hw hs F hc hz kk
    · exact zs_icmp_gt X hw hs F hc hz kk
    · exact zs_icmp_le X hw hs F hc hz kk
  case tableswitch => exact zs_tableswitch X hw hs F hc hz kk
  case lookupswitch => exact zs_lookupswitch X hw hs F hc hz kk
  case getfield => exact zs_getfield X hw hs F hc hz kk
  case putfield => exact zs_putfield X hw hs F hc hz kk
  case iaload => exact zs_iaload X hw hs F hc hz kk
  case iastore => exact zs_iastore X hw hs F hc hz kk
  case arraylength => exact zs_arraylength X hw hs F hc hz kk
  case new => exact zs_new X hw hs F hc hz hRc hRz kk
  case newarray => exact zs_newarray X hw hs F hc hz hRc hRz kk
  case invokespecial idx =>
    by_cases h1 : rt = 1
    · subst h1
      exact zs_objInit X hw hs F hc hz hll hRf hRl kk
    · simp [zkind, h1] at hk
  case invokestatic idx =>
    by_cases h1 : rt = 3
    · subst h1
      exact zs_copy X hw hs F hc hz hll hRf hRl kk
    · simp [zkind, h1] at hk
  all_goals cases hs
theorem zgo_sound (IH : zCon l D cI b base L xs d) (hall : zall E = true) (X : zCx p s m args meth c E D cI b base L xs n0) (hRf : d + 1 ≤ R.frames) (hRl : 80 + 40 * (d + 1) ≤ R.locals) {r : Option zV} {S' : List zC} {M' : zM} (hRc : S'.length ≤ R.cells + n0) (hRz : zsl S' ≤ R.slots + z0)
    (hret : ∀ (pc : Nat) (w : zR) (ls : List (Option zV)) (st : List zV) (H : Heap) (locs : List Loc) (lsA : Array Slot) (cells slots : Nat), E.2.2.2.2.2.2.2[pc]? = some (some w) → zkind w = 2 → zret w (pc, ls, st, S', M') = some r → zFt D cI b base L xs s ls S' M' H locs lsA → cells + n0 = S'.length → slots + z0 = zsl S' → W p l e R s m args below meth c H locs cells slots Q (F0 m pc lsA (st.map (zcv b base)))) :
    ∀ (n pc : Nat) (ls : List (Option zV)) (st : List zV) (S : List zC) (M : zM) (H : Heap) (locs : List Loc) (lsA : Array Slot) (cells slots : Nat), zGo zdef (zCR d) E.2.2.2.2.2.2.2 n (pc, ls, st, S, M) r S' M' → zFt D cI b base L xs s ls S M H locs lsA → cells + n0 = S.length → slots + z0 = zsl S → ls.length = E.2.2.1 → W p l e R s m args below meth c H locs cells slots Q (F0 m pc lsA (st.map (zcv b base)))
  | 0, _, _, _, _, _, _, _, _, _, _, h, _, _, _, _ => h.elim
  | n + 1, pc, ls, st, S, M, H, locs, lsA, cells, slots, h, F, hc, hz, hll => by
    obtain ⟨w, hcd, h | h | h⟩ := h
    · obtain ⟨hk, s2, hs, hg⟩ := h
      have hm := zgo_mono (zcr_mono d) n s2 r S' M' hg
      have hm2 := zstep_mono hs
      obtain ⟨pc2, ls2, st2, S2, M2⟩ := s2
      exact zstep_sound X (zall_at hall hcd) hk hs F hc hz hll (by omega) (by omega) (Nat.le_trans hm.1 hRc) (Nat.le_trans hm.2 hRz) (fun H2 locs2 lsB cells2 slots2 F2 hc2 hz2 => zgo_sound IH hall X hRf hRl hRc hRz hret n pc2 ls2 st2 S2 M2 H2 locs2 lsB cells2 slots2 hg F2 hc2 hz2 (hm2.1.trans hll))
    · obtain ⟨hk, k, as, rest, v, S1, M1, hca, hC, hg⟩ := h
      have hm := zgo_mono (zcr_mono d) n _ r S' M' hg
      have hm2 := zcr_mono d k as S M v S1 M1 hC
      have hm : S1.length ≤ S'.length ∧ zsl S1 ≤ zsl S' := hm
      exact zcall_sound IH X (zall_at hall hcd) hk hca hC F hc hz hll hRf hRl (Nat.le_trans hm.1 hRc) (Nat.le_trans hm.2 hRz) (fun H1 locs1 F1 => zgo_sound IH hall X hRf hRl hRc hRz hret n (pc + 3) ls (v.toList ++ rest) S1 M1 H1 locs1 lsA _ _ hg F1 (by omega) (by omega) hll)
    · obtain ⟨hk, hr, hS1, hM1⟩ := h
      subst hS1
      subst hM1
      exact hret pc w ls st H locs lsA cells slots hcd hk hr F hc hz
end ZG
theorem zret_dec {E : zE} {pc ra rb rt : Nat} (h : zok E pc (.ireturn, ra, rb, rt) = true) : decode E.2.1 pc = .ok (.ireturn, 1) := by
  obtain ⟨hd, -⟩ := (Bool.and_eq_true _ _).mp h
  exact of_decide_eq_true hd
theorem zlg_sl (b base : Nat) : ∀ as : List zV, lg_sl (as.map (zcv b base)) = as.map (fun v => Slot.val (zcv b base v))
  | [] => rfl
  | v :: as => by
    have h := zlg_sl b base as
    unfold lg_sl at h ⊢
    rw [List.map_cons, List.flatMap_cons, h, zcv_cat]
    rfl
theorem zargs (b base : Nat) : ∀ (as : List zV) (n i : Nat) (v : zV), as[i]? = some v → (n + i, zcv b base v) ∈ lv_args n (as.map (zcv b base))
  | [], _, _, _, h => by simp at h
  | u :: as, n, i, v, h => by
    show _ ∈ lv_args n (zcv b base u :: as.map (zcv b base))
    unfold lv_args
    rcases i with _ | i
    · rw [List.getElem?_cons_zero] at h
      cases h
      exact List.mem_cons_self
    · rw [List.getElem?_cons_succ] at h
      have h1 := zargs b base as (n + 1) i v h
      refine List.mem_cons_of_mem _ ?_
      rw [show n + (i + 1) = n + 1 + i by omega]
      rw [zcv_cat]
      exact h1
theorem zent_len {n : Nat} {as : List zV} (h : as.length ≤ n) : (zent n as).length = n := by
  unfold zent
  rw [List.length_append, List.length_map, List.length_replicate]
  omega
theorem zent_at {n i : Nat} {as : List zV} {v : zV} (h : (zent n as)[i]? = some (some v)) : as[i]? = some v := by
  unfold zent at h
  by_cases hi : i < as.length
  · rw [List.getElem?_append_left (by rw [List.length_map]; exact hi), List.getElem?_map] at h
    cases ha : as[i]? with
    | none => rw [ha] at h; cases h
    | some u => rw [ha] at h; cases h; rfl
  · rw [List.getElem?_append_right (by rw [List.length_map]; omega), List.getElem?_replicate] at h
    split at h <;> cases h
theorem zentry (b base : Nat) {n : Nat} {as : List zV} (h : as.length ≤ n) : zlr b base ((lg_sl (as.map (zcv b base)) ++ List.replicate (n - (lg_sl (as.map (zcv b base))).length) Slot.unset).toArray) (zent n as) := by
  have hl : (lg_sl (as.map (zcv b base))).length ≤ n := by
    rw [zlg_sl, List.length_map]
    exact h
  refine ⟨lv_args 0 (as.map (zcv b base)), ?_, fun i v hi => ?_⟩
  · rw [zent_len h]
    exact lv_entry (as.map (zcv b base)) hl
  · have h1 := zargs b base as 0 i v (zent_at hi)
    rwa [Nat.zero_add] at h1
set_option maxHeartbeats 4000000 in
/-- every method meets the contract that our machine tells of it -/
theorem zcon (l : Launch) (D : va_G) (cI : ClassId) {b base : Nat} (hbb : b < base) (L : Nat) (xs : Nat → Int32) : ∀ d, zCon l D cI b base L xs d
  | 0 => fun k E as S M r S' M' _ hC _ _ => hC.elim
  | d + 1 => by
    intro k E as S M r S' M' hE hC hS0 hM0
    have hmono := zcr_mono (d + 1) k as S M r S' M' hC
    obtain ⟨E', n, hE', hlen, hgo⟩ := hC
    cases hE.symm.trans hE'
    obtain ⟨hall, q, -, hq, hcd⟩ := zmeth hE
    have hpl : plainFor E.1 = true := by
      unfold zmok at hq
      simp only [Bool.and_eq_true] at hq
      exact hq.2
    refine zMet_ofW (cc := E.2.1) (maxL := E.2.2.1) (ret := E.2.2.2.1) hpl rfl ?_
    intro p e s m args below meth c s₁ B hml hv
    obtain ⟨rfl, hsz, hP, hK, hX, hN⟩ := hv
    have hr := B.returns
    have hlocks := B.notSynchronized
    have hpos := zlen_pos hS0
    have X : zCx p s m (as.map (zcv b base)).toArray meth c E D cI b base L xs S.length := ⟨B.exec, B.bytes, hml, findClass_of_methodNamed B.named, fun w hw => atoms_spec (ws := zwd E) B.pre w (List.mem_cons_of_mem _ hw), fun h => (name_of_methodNamed B.named B.method).1.trans h, hK, hX, hbb, hsz, hpos, hN⟩
    rw [lg_entry_eq]
    refine zgo_sound (R := (headSpec (zwd E) (zrm (d + 1) (S'.length - S.length) (zsl S' - zsl S))).room) (z0 := zsl S) (zcon l D cI hbb L xs d) hall X (Nat.le_refl _) (Nat.le_refl _) (by show S'.length ≤ (S'.length - S.length) + S.length; omega) (by show zsl S' ≤ (zsl S' - zsl S) + zsl S; omega) ?_ n 0 (zent E.2.2.1 as) [] S M s.heap [] _ 0 0 hgo ⟨zentry b base hlen, hP, va_S.rf, hS0, hM0⟩ (by omega) (by omega) (zent_len hlen)
    intro pc w ls st H locs lsA cells slots hcd2 hk hr2 F hc hz
    obtain ⟨hl, hP2, hS2, hS02, hM02⟩ := F
    have hc1 : cells = S'.length - S.length := by omega
    have hz1 : slots = zsl S' - zsl S := by omega
    subst hc1
    subst hz1
    have hwk := zall_at hall hcd2
    obtain ⟨ins, ra, rb, rt⟩ := w
    cases ins
    case return_ =>
      obtain ⟨hd, h1⟩ := (Bool.and_eq_true _ _).mp hwk
      have hd : decode E.2.1 pc = .ok (.return_, 1) := of_decide_eq_true hd
      have h1 : E.2.2.2.1 = none := of_decide_eq_true h1
      rcases st with _ | ⟨u, st⟩
      · cases hr2
        exact W.vret B.exec B.bytes (hr.trans h1) (fun t ht hW => ⟨rfl, by rw [ht]; exact hP2, by rw [ht]; exact hS2.1, fun q hq => by rw [ht]; exact hS2.2.1 q (by omega) (by omega), hS02, hM02⟩) hS2.2.2 hd
      · cases hr2
    case ireturn =>
      obtain ⟨hd, h1⟩ := (Bool.and_eq_true _ _).mp hwk
      have hd : decode E.2.1 pc = .ok (.ireturn, 1) := of_decide_eq_true hd
      rcases st with _ | ⟨x | u, _ | ⟨u2, st⟩⟩
      · cases hr2
      rotate_left
      · cases hr2
      · cases hr2
      · cases hr2
      have hr2 : (if rt = 1 → x = 0 ∨ x = 1 then some (some (Sum.inl x)) else none) = some r := hr2
      by_cases hx01 : rt = 1 → x = 0 ∨ x = 1
      · rw [if_pos hx01] at hr2
        cases hr2
        rcases rt with _ | _ | rt
        · have h1 : E.2.2.2.1 = some .int := of_decide_eq_true h1
          exact W.iret B.exec B.bytes (hr.trans h1) (fun t ht hW => ⟨rfl, by rw [ht]; exact hP2, by rw [ht]; exact hS2.1, fun q hq => by rw [ht]; exact hS2.2.1 q (by omega) (by omega), hS02, hM02⟩) hS2.2.2 hd
        · have h1 : E.2.2.2.1 = some .boolean := of_decide_eq_true h1
          have h01 : narrow .boolean (.int (Int32.ofInt x)) = .int (Int32.ofInt x) := by
            rcases hx01 rfl with rfl | rfl
            · decide
            · decide
          exact W.zret B.exec B.bytes (hr.trans h1) h01 (fun t ht hW => ⟨rfl, by rw [ht]; exact hP2, by rw [ht]; exact hS2.1, fun q hq => by rw [ht]; exact hS2.2.1 q (by omega) (by omega), hS02, hM02⟩) hS2.2.2 hd
        · cases h1
      · rw [if_neg hx01] at hr2
        cases hr2
    all_goals cases hr2
