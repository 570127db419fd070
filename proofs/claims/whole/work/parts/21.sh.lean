/-! THE CELLS BEHIND THE TWO CONSTRUCTORS (printed by wip/whole/shape.py), and rows for runs over them -/
def zSh (L : Nat) : List zC := [.inl L,
  .inr (7, [some (some 2), some (some 9), some (some 13), some (some 18), some (some 20), some (some 22), some (some 24), some (some 26), some (some 33), none, none, none, none, none]),
  .inr (0, [some (some 3), some (some 4), some (some 5), some (some 6), some (some 7), some (some 8), none, none]),
  .inl 60,
  .inl 60,
  .inl 60,
  .inl 60,
  .inl 60,
  .inl 7,
  .inr (1, [some (some 11), some (some 12), none, none, some (some 2), some (some 10)]),
  .inl 1770,
  .inl 60,
  .inl 60,
  .inr (2, [some (some 14), some (some 15), some (some 2), some (some 9), some (some 16), some (some 17)]),
  .inl 60,
  .inl 60,
  .inl 60,
  .inl 60,
  .inr (4, [some (some 19), some (some 2), some (some 9)]),
  .inl 60,
  .inr (4, [some (some 21), some (some 2), some (some 9)]),
  .inl 60,
  .inr (6, [some (some 2), some (some 9), some (some 23), none]),
  .inl 60,
  .inr (5, [some (some 25), none, none, some (some 2), some (some 9)]),
  .inl 60,
  .inr (3, [some (some 2), some (some 27), some (some 28), some (some 29), some (some 30), some (some 31), some (some 32)]),
  .inl 16,
  .inl 64,
  .inl 16,
  .inl 64,
  .inl 60,
  .inl 60,
  .inl 60,
  .inr (8, [some (some 35), some (some 36), some (some 37), some (some 38), some (some 39), none, some (some 40), none, some (some 41), none, some (some 42), some (some 43), some (some 44), some (some 45), some (some 46), some (some 47), some (some 48), none, some (some 49), some (some 50), none, none, some (some 51), some (some 52), some (some 53), some (some 54), some (some 55), some (some 56)]),
  .inl 60,
  .inl 60,
  .inl 60,
  .inl 60,
  .inl 60,
  .inl 7,
  .inl 3600,
  .inl 60,
  .inl 60,
  .inl 60,
  .inl 60,
  .inl 60,
  .inl 60,
  .inl 60,
  .inl 60,
  .inl 60,
  .inl 16,
  .inl 64,
  .inl 16,
  .inl 64,
  .inl 60,
  .inl 60]
def zr (S : List zC) (d : Nat) (cd : List (Option zR)) (pc : Nat) (ls : List (Option zV)) (st : List zV) (M : zM) (Q : Option zV → zM → Prop) : Prop := zWp d cd (pc, ls, st, S, M) (fun r S' M' => S' = S ∧ Q r M')
def zf (S : List zC) (d k : Nat) (as : List zV) (M : zM) (Q : Option zV → zM → Prop) : Prop := zSp d k as (S) M (fun r S' M' => S' = S ∧ Q r M')
/-- steps that are taken without a look: no branch, no way back -/
def zfw (w : zR) : Bool := match w with
  | (.goto off, _, _, _) => decide (0 ≤ off)
  | (.ifCond _ _, _, _, _) => false
  | (.if_icmp _ _, _, _, _) => false
  | (.tableswitch _ _ _ _, _, _, _) => false
  | (.lookupswitch _ _, _, _, _) => false
  | w => zkind w == 0
theorem zfw_kind {w : zR} (h : zfw w = true) : zkind w = 0 := by
  obtain ⟨ins, ra, rb, rt⟩ := w
  cases ins <;> first | rfl | (simp [zfw] at h; done) | simpa [zfw] using h
section ZR
variable {S : List zC} {d : Nat} {cd : List (Option zR)} {pc : Nat} {ls : List (Option zV)} {st : List zV} {M : zM} {Q : Option zV → zM → Prop} {w : zR}
theorem zr_s {pc2 : Nat} {ls2 : List (Option zV)} {st2 : List zV} {M2 : zM} (hc : cd[pc]? = some (some w)) (hf : zfw w = true) (hs : zstep zdef w (pc, ls, st, S, M) = some (pc2, ls2, st2, S, M2)) (k : zr S d cd pc2 ls2 st2 M2 Q) : zr S d cd pc ls st M Q := zWp_step hc (zfw_kind hf) hs k
/-- the same, but not from 'stop' on -/
theorem zr_t (stop : Nat) {pc2 : Nat} {ls2 : List (Option zV)} {st2 : List zV} {M2 : zM} (hp : (pc == stop) = false) (hc : cd[pc]? = some (some w)) (hf : zfw w = true) (hs : zstep zdef w (pc, ls, st, S, M) = some (pc2, ls2, st2, S, M2)) (k : zr S d cd pc2 ls2 st2 M2 Q) : zr S d cd pc ls st M Q := zWp_step hc (zfw_kind hf) hs k
/-- a way back -/
theorem zr_b {off : Int} {ra rb rt pc2 : Nat} (hc : cd[pc]? = some (some (.goto off, ra, rb, rt))) (hp : ztgt pc off = pc2) (k : zr S d cd pc2 ls st M Q) : zr S d cd pc ls st M Q := zWp_step hc rfl (by subst hp; rfl) k
theorem zr_post {Q1 : Option zV → zM → Prop} (h : zr S d cd pc ls st M Q1) (hq : ∀ r M, Q1 r M → Q r M) : zr S d cd pc ls st M Q := zWp_post h (fun r S M hh => ⟨hh.1, hq r M hh.2⟩)
theorem zr_ret {x : Int} {ra rb : Nat} (hc : cd[pc]? = some (some (.ireturn, ra, rb, 0))) (h : Q (some (.inl x)) M) : zr S d cd pc ls [.inl x] M Q := zWp_ret hc rfl rfl ⟨rfl, h⟩
theorem zr_retz {x : Int} {ra rb : Nat} (hc : cd[pc]? = some (some (.ireturn, ra, rb, 1))) (hx : x = 0 ∨ x = 1) (h : Q (some (.inl x)) M) : zr S d cd pc ls [.inl x] M Q := zWp_ret hc rfl (if_pos (fun _ => hx)) ⟨rfl, h⟩
theorem zr_retv {ra rb rt : Nat} (hc : cd[pc]? = some (some (.return_, ra, rb, rt))) (h : Q none M) : zr S d cd pc ls [] M Q := zWp_ret hc rfl rfl ⟨rfl, h⟩
theorem zr_c {k : Nat} {as rest : List zV} {Q1 : Option zV → zM → Prop} (hc : cd[pc]? = some (some w)) (hk : zkind w = 1) (hs : zcall w (pc, ls, st, S, M) = some (k, as, rest)) (hp : zf S d k as M Q1) (h : ∀ v M1, Q1 v M1 → zr S d cd (pc + 3) ls (v.toList ++ rest) M1 Q) : zr S d cd pc ls st M Q := zWp_call hc hk hs hp (fun v S1 M1 hh => by obtain ⟨rfl, hh⟩ := hh; exact h v M1 hh)
/-- a call that changes nothing and answers a number -/
theorem zr_cr {k : Nat} {as rest : List zV} {x : Int} (hc : cd[pc]? = some (some w)) (hk : zkind w = 1) (hs : zcall w (pc, ls, st, S, M) = some (k, as, rest)) (hp : zf S d k as M (fun v M1 => v = some (.inl x) ∧ M1 = M)) (h : zr S d cd (pc + 3) ls (.inl x :: rest) M Q) : zr S d cd pc ls st M Q := zr_c hc hk hs hp (fun v M1 hh => by obtain ⟨rfl, rfl⟩ := hh; exact h)
theorem zf_of {k : Nat} {E : zE} {as : List zV} (hE : zmt[k]? = some E) (hl : as.length ≤ E.2.2.1) (h : zr S d E.2.2.2.2.2.2.2 0 (zent E.2.2.1 as) [] M Q) : zf S (d + 1) k as M Q := zSp_of hE hl h
theorem zf_mono {d2 k : Nat} {as : List zV} (hd : d ≤ d2) (h : zf S d k as M Q) : zf S d2 k as M Q := zSp_mono hd h
theorem zf_post {k : Nat} {as : List zV} {Q1 : Option zV → zM → Prop} (h : zf S d k as M Q1) (hq : ∀ r M, Q1 r M → Q r M) : zf S d k as M Q := by
  obtain ⟨r, S', M', hc, h1, h2⟩ := h
  exact ⟨r, S', M', hc, h1, hq _ _ h2⟩
theorem zr_ald {i : Int} {j n : Nat} {ra rb rt : Nat} (k : Nat) (hc : cd[pc]? = some (some (.iaload, ra, rb, rt))) (hS : (S)[j]? = some (.inl n)) (hi : i = (k : Int)) (hk : k < n) (hn : (n : Int) ≤ 2147483647) (h : zr S d cd (pc + 1) ls (.inl (M j k) :: st) M Q) : zr S d cd pc ls (.inl i :: .inr (some j) :: st) M Q := by
  subst hi
  have hw : zw (k : Int) = (k : Int) := zwid (by omega) (by omega)
  refine zWp_step hc rfl ?_ h
  simp only [zstep, hS]
  rw [hw, if_pos ⟨by omega, by omega⟩]
  rfl
theorem zr_ast {i x : Int} {j n : Nat} {ra rb rt : Nat} (k : Nat) (hc : cd[pc]? = some (some (.iastore, ra, rb, rt))) (hS : (S)[j + 1]? = some (.inl n)) (hi : i = (k : Int)) (hk : k < n) (hn : (n : Int) ≤ 2147483647) (h : zr S d cd (pc + 1) ls st (zup M (j + 1) k x) Q) : zr S d cd pc ls (.inl x :: .inl i :: .inr (some (j + 1)) :: st) M Q := by
  subst hi
  have hw : zw (k : Int) = (k : Int) := zwid (by omega) (by omega)
  refine zWp_step hc rfl ?_ h
  simp only [zstep, hS]
  rw [hw, if_pos ⟨by omega, by omega⟩]
  rfl
theorem zr_ieq {x y : Int} {off : Int} {ra rb rt : Nat} (hc : cd[pc]? = some (some (.if_icmp .eq off, ra, rb, rt))) (hx : -2147483648 ≤ x ∧ x < 2147483648) (hy : -2147483648 ≤ y ∧ y < 2147483648) (kt : x = y → zr S d cd (ztgt pc off) ls st M Q) (kf : ¬ x = y → zr S d cd (pc + 3) ls st M Q) : zr S d cd pc ls (.inl y :: .inl x :: st) M Q := by
  have hwx := zwid hx.1 hx.2
  have hwy := zwid hy.1 hy.2
  by_cases hh : x = y
  · refine zWp_step hc rfl (s2 := (ztgt pc off, ls, st, S, M)) ?_ (kt hh)
    show some (if zw x = zw y then ztgt pc off else pc + 3, ls, st, S, M) = _
    rw [hwx, hwy, if_pos (by omega)]
  · refine zWp_step hc rfl (s2 := (pc + 3, ls, st, S, M)) ?_ (kf (by omega))
    show some (if zw x = zw y then ztgt pc off else pc + 3, ls, st, S, M) = _
    rw [hwx, hwy, if_neg (by omega)]
theorem zr_zeq {x : Int} {off : Int} {ra rb rt : Nat} (hc : cd[pc]? = some (some (.ifCond .eq off, ra, rb, rt))) (hx : -2147483648 ≤ x ∧ x < 2147483648) (kt : x = 0 → zr S d cd (ztgt pc off) ls st M Q) (kf : ¬ x = 0 → zr S d cd (pc + 3) ls st M Q) : zr S d cd pc ls (.inl x :: st) M Q := by
  have hwx := zwid hx.1 hx.2
  by_cases hh : x = 0
  · refine zWp_step hc rfl (s2 := (ztgt pc off, ls, st, S, M)) ?_ (kt hh)
    show some (if zw x = 0 then ztgt pc off else pc + 3, ls, st, S, M) = _
    rw [hwx, if_pos (by omega)]
  · refine zWp_step hc rfl (s2 := (pc + 3, ls, st, S, M)) ?_ (kf (by omega))
    show some (if zw x = 0 then ztgt pc off else pc + 3, ls, st, S, M) = _
    rw [hwx, if_neg (by omega)]
theorem zr_ine {x y : Int} {off : Int} {ra rb rt : Nat} (hc : cd[pc]? = some (some (.if_icmp .ne off, ra, rb, rt))) (hx : -2147483648 ≤ x ∧ x < 2147483648) (hy : -2147483648 ≤ y ∧ y < 2147483648) (kt : x ≠ y → zr S d cd (ztgt pc off) ls st M Q) (kf : x = y → zr S d cd (pc + 3) ls st M Q) : zr S d cd pc ls (.inl y :: .inl x :: st) M Q := by
  have hwx := zwid hx.1 hx.2
  have hwy := zwid hy.1 hy.2
  by_cases hh : x ≠ y
  · refine zWp_step hc rfl (s2 := (ztgt pc off, ls, st, S, M)) ?_ (kt hh)
    show some (if zw x ≠ zw y then ztgt pc off else pc + 3, ls, st, S, M) = _
    rw [hwx, hwy, if_pos (by omega)]
  · refine zWp_step hc rfl (s2 := (pc + 3, ls, st, S, M)) ?_ (kf (by omega))
    show some (if zw x ≠ zw y then ztgt pc off else pc + 3, ls, st, S, M) = _
    rw [hwx, hwy, if_neg (by omega)]
theorem zr_zne {x : Int} {off : Int} {ra rb rt : Nat} (hc : cd[pc]? = some (some (.ifCond .ne off, ra, rb, rt))) (hx : -2147483648 ≤ x ∧ x < 2147483648) (kt : x ≠ 0 → zr S d cd (ztgt pc off) ls st M Q) (kf : x = 0 → zr S d cd (pc + 3) ls st M Q) : zr S d cd pc ls (.inl x :: st) M Q := by
  have hwx := zwid hx.1 hx.2
  by_cases hh : x ≠ 0
  · refine zWp_step hc rfl (s2 := (ztgt pc off, ls, st, S, M)) ?_ (kt hh)
    show some (if zw x ≠ 0 then ztgt pc off else pc + 3, ls, st, S, M) = _
    rw [hwx, if_pos (by omega)]
  · refine zWp_step hc rfl (s2 := (pc + 3, ls, st, S, M)) ?_ (kf (by omega))
    show some (if zw x ≠ 0 then ztgt pc off else pc + 3, ls, st, S, M) = _
    rw [hwx, if_neg (by omega)]
theorem zr_ilt {x y : Int} {off : Int} {ra rb rt : Nat} (hc : cd[pc]? = some (some (.if_icmp .lt off, ra, rb, rt))) (hx : -2147483648 ≤ x ∧ x < 2147483648) (hy : -2147483648 ≤ y ∧ y < 2147483648) (kt : x < y → zr S d cd (ztgt pc off) ls st M Q) (kf : y ≤ x → zr S d cd (pc + 3) ls st M Q) : zr S d cd pc ls (.inl y :: .inl x :: st) M Q := by
  have hwx := zwid hx.1 hx.2
  have hwy := zwid hy.1 hy.2
  by_cases hh : x < y
  · refine zWp_step hc rfl (s2 := (ztgt pc off, ls, st, S, M)) ?_ (kt hh)
    show some (if zw x < zw y then ztgt pc off else pc + 3, ls, st, S, M) = _
    rw [hwx, hwy, if_pos (by omega)]
  · refine zWp_step hc rfl (s2 := (pc + 3, ls, st, S, M)) ?_ (kf (by omega))
    show some (if zw x < zw y then ztgt pc off else pc + 3, ls, st, S, M) = _
    rw [hwx, hwy, if_neg (by omega)]
theorem zr_zlt {x : Int} {off : Int} {ra rb rt : Nat} (hc : cd[pc]? = some (some (.ifCond .lt off, ra, rb, rt))) (hx : -2147483648 ≤ x ∧ x < 2147483648) (kt : x < 0 → zr S d cd (ztgt pc off) ls st M Q) (kf : 0 ≤ x → zr S d cd (pc + 3) ls st M Q) : zr S d cd pc ls (.inl x :: st) M Q := by
  have hwx := zwid hx.1 hx.2
  by_cases hh : x < 0
  · refine zWp_step hc rfl (s2 := (ztgt pc off, ls, st, S, M)) ?_ (kt hh)
    show some (if zw x < 0 then ztgt pc off else pc + 3, ls, st, S, M) = _
    rw [hwx, if_pos (by omega)]
  · refine zWp_step hc rfl (s2 := (pc + 3, ls, st, S, M)) ?_ (kf (by omega))
    show some (if zw x < 0 then ztgt pc off else pc + 3, ls, st, S, M) = _
    rw [hwx, if_neg (by omega)]
theorem zr_ige {x y : Int} {off : Int} {ra rb rt : Nat} (hc : cd[pc]? = some (some (.if_icmp .ge off, ra, rb, rt))) (hx : -2147483648 ≤ x ∧ x < 2147483648) (hy : -2147483648 ≤ y ∧ y < 2147483648) (kt : y ≤ x → zr S d cd (ztgt pc off) ls st M Q) (kf : x < y → zr S d cd (pc + 3) ls st M Q) : zr S d cd pc ls (.inl y :: .inl x :: st) M Q := by
  have hwx := zwid hx.1 hx.2
  have hwy := zwid hy.1 hy.2
  by_cases hh : y ≤ x
  · refine zWp_step hc rfl (s2 := (ztgt pc off, ls, st, S, M)) ?_ (kt hh)
    show some (if zw x ≥ zw y then ztgt pc off else pc + 3, ls, st, S, M) = _
    rw [hwx, hwy, if_pos (by omega)]
  · refine zWp_step hc rfl (s2 := (pc + 3, ls, st, S, M)) ?_ (kf (by omega))
    show some (if zw x ≥ zw y then ztgt pc off else pc + 3, ls, st, S, M) = _
    rw [hwx, hwy, if_neg (by omega)]
theorem zr_zge {x : Int} {off : Int} {ra rb rt : Nat} (hc : cd[pc]? = some (some (.ifCond .ge off, ra, rb, rt))) (hx : -2147483648 ≤ x ∧ x < 2147483648) (kt : 0 ≤ x → zr S d cd (ztgt pc off) ls st M Q) (kf : x < 0 → zr S d cd (pc + 3) ls st M Q) : zr S d cd pc ls (.inl x :: st) M Q := by
  have hwx := zwid hx.1 hx.2
  by_cases hh : 0 ≤ x
  · refine zWp_step hc rfl (s2 := (ztgt pc off, ls, st, S, M)) ?_ (kt hh)
    show some (if zw x ≥ 0 then ztgt pc off else pc + 3, ls, st, S, M) = _
    rw [hwx, if_pos (by omega)]
  · refine zWp_step hc rfl (s2 := (pc + 3, ls, st, S, M)) ?_ (kf (by omega))
    show some (if zw x ≥ 0 then ztgt pc off else pc + 3, ls, st, S, M) = _
    rw [hwx, if_neg (by omega)]
theorem zr_igt {x y : Int} {off : Int} {ra rb rt : Nat} (hc : cd[pc]? = some (some (.if_icmp .gt off, ra, rb, rt))) (hx : -2147483648 ≤ x ∧ x < 2147483648) (hy : -2147483648 ≤ y ∧ y < 2147483648) (kt : y < x → zr S d cd (ztgt pc off) ls st M Q) (kf : x ≤ y → zr S d cd (pc + 3) ls st M Q) : zr S d cd pc ls (.inl y :: .inl x :: st) M Q := by
  have hwx := zwid hx.1 hx.2
  have hwy := zwid hy.1 hy.2
  by_cases hh : y < x
  · refine zWp_step hc rfl (s2 := (ztgt pc off, ls, st, S, M)) ?_ (kt hh)
    show some (if zw x > zw y then ztgt pc off else pc + 3, ls, st, S, M) = _
    rw [hwx, hwy, if_pos (by omega)]
  · refine zWp_step hc rfl (s2 := (pc + 3, ls, st, S, M)) ?_ (kf (by omega))
    show some (if zw x > zw y then ztgt pc off else pc + 3, ls, st, S, M) = _
    rw [hwx, hwy, if_neg (by omega)]
theorem zr_zgt {x : Int} {off : Int} {ra rb rt : Nat} (hc : cd[pc]? = some (some (.ifCond .gt off, ra, rb, rt))) (hx : -2147483648 ≤ x ∧ x < 2147483648) (kt : 0 < x → zr S d cd (ztgt pc off) ls st M Q) (kf : x ≤ 0 → zr S d cd (pc + 3) ls st M Q) : zr S d cd pc ls (.inl x :: st) M Q := by
  have hwx := zwid hx.1 hx.2
  by_cases hh : 0 < x
  · refine zWp_step hc rfl (s2 := (ztgt pc off, ls, st, S, M)) ?_ (kt hh)
    show some (if zw x > 0 then ztgt pc off else pc + 3, ls, st, S, M) = _
    rw [hwx, if_pos (by omega)]
  · refine zWp_step hc rfl (s2 := (pc + 3, ls, st, S, M)) ?_ (kf (by omega))
    show some (if zw x > 0 then ztgt pc off else pc + 3, ls, st, S, M) = _
    rw [hwx, if_neg (by omega)]
theorem zr_ile {x y : Int} {off : Int} {ra rb rt : Nat} (hc : cd[pc]? = some (some (.if_icmp .le off, ra, rb, rt))) (hx : -2147483648 ≤ x ∧ x < 2147483648) (hy : -2147483648 ≤ y ∧ y < 2147483648) (kt : x ≤ y → zr S d cd (ztgt pc off) ls st M Q) (kf : y < x → zr S d cd (pc + 3) ls st M Q) : zr S d cd pc ls (.inl y :: .inl x :: st) M Q := by
  have hwx := zwid hx.1 hx.2
  have hwy := zwid hy.1 hy.2
  by_cases hh : x ≤ y
  · refine zWp_step hc rfl (s2 := (ztgt pc off, ls, st, S, M)) ?_ (kt hh)
    show some (if zw x ≤ zw y then ztgt pc off else pc + 3, ls, st, S, M) = _
    rw [hwx, hwy, if_pos (by omega)]
  · refine zWp_step hc rfl (s2 := (pc + 3, ls, st, S, M)) ?_ (kf (by omega))
    show some (if zw x ≤ zw y then ztgt pc off else pc + 3, ls, st, S, M) = _
    rw [hwx, hwy, if_neg (by omega)]
theorem zr_zle {x : Int} {off : Int} {ra rb rt : Nat} (hc : cd[pc]? = some (some (.ifCond .le off, ra, rb, rt))) (hx : -2147483648 ≤ x ∧ x < 2147483648) (kt : x ≤ 0 → zr S d cd (ztgt pc off) ls st M Q) (kf : 0 < x → zr S d cd (pc + 3) ls st M Q) : zr S d cd pc ls (.inl x :: st) M Q := by
  have hwx := zwid hx.1 hx.2
  by_cases hh : x ≤ 0
  · refine zWp_step hc rfl (s2 := (ztgt pc off, ls, st, S, M)) ?_ (kt hh)
    show some (if zw x ≤ 0 then ztgt pc off else pc + 3, ls, st, S, M) = _
    rw [hwx, if_pos (by omega)]
  · refine zWp_step hc rfl (s2 := (pc + 3, ls, st, S, M)) ?_ (kf (by omega))
    show some (if zw x ≤ 0 then ztgt pc off else pc + 3, ls, st, S, M) = _
    rw [hwx, if_neg (by omega)]
end ZR
