/-! HOW A METHOD IS LOOKED AT on our machine -/
def zWp (d : Nat) (cd : List (Option zR)) (s : zS) (Q : Option zV → List zC → zM → Prop) : Prop := ∃ (n : Nat) (r : Option zV) (S' : List zC) (M' : zM), zGo zdef (zCR d) cd n s r S' M' ∧ Q r S' M'
def zSp (d k : Nat) (as : List zV) (S : List zC) (M : zM) (Q : Option zV → List zC → zM → Prop) : Prop := ∃ (r : Option zV) (S' : List zC) (M' : zM), zCR d k as S M r S' M' ∧ Q r S' M'
theorem zWp_step {d : Nat} {cd : List (Option zR)} {s s2 : zS} {Q : Option zV → List zC → zM → Prop} {w : zR} (hc : cd[s.1]? = some (some w)) (hk : zkind w = 0) (hs : zstep zdef w s = some s2) (h : zWp d cd s2 Q) : zWp d cd s Q := by
  obtain ⟨n, r, S', M', hg, hq⟩ := h
  exact ⟨n + 1, r, S', M', ⟨w, hc, Or.inl ⟨hk, s2, hs, hg⟩⟩, hq⟩
theorem zWp_call {d : Nat} {cd : List (Option zR)} {s : zS} {Q Q1 : Option zV → List zC → zM → Prop} {w : zR} {k : Nat} {as rest : List zV} (hc : cd[s.1]? = some (some w)) (hk : zkind w = 1) (hs : zcall w s = some (k, as, rest)) (hp : zSp d k as s.2.2.2.1 s.2.2.2.2 Q1) (h : ∀ v S1 M1, Q1 v S1 M1 → zWp d cd (s.1 + 3, s.2.1, v.toList ++ rest, S1, M1) Q) : zWp d cd s Q := by
  obtain ⟨v, S1, M1, hC, hq1⟩ := hp
  obtain ⟨n, r, S', M', hg, hq⟩ := h v S1 M1 hq1
  exact ⟨n + 1, r, S', M', ⟨w, hc, Or.inr (Or.inl ⟨hk, k, as, rest, v, S1, M1, hs, hC, hg⟩)⟩, hq⟩
theorem zWp_ret {d : Nat} {cd : List (Option zR)} {s : zS} {Q : Option zV → List zC → zM → Prop} {w : zR} {r : Option zV} (hc : cd[s.1]? = some (some w)) (hk : zkind w = 2) (hs : zret w s = some r) (h : Q r s.2.2.2.1 s.2.2.2.2) : zWp d cd s Q :=
  ⟨1, r, _, _, ⟨w, hc, Or.inr (Or.inr ⟨hk, hs, rfl, rfl⟩)⟩, h⟩
theorem zWp_post {d : Nat} {cd : List (Option zR)} {s : zS} {Q Q1 : Option zV → List zC → zM → Prop} (h : zWp d cd s Q1) (hq : ∀ r S M, Q1 r S M → Q r S M) : zWp d cd s Q := by
  obtain ⟨n, r, S', M', hg, h1⟩ := h
  exact ⟨n, r, S', M', hg, hq _ _ _ h1⟩
theorem zSp_of {d k : Nat} {E : zE} {as : List zV} {S : List zC} {M : zM} {Q : Option zV → List zC → zM → Prop} (hE : zmt[k]? = some E) (hl : as.length ≤ E.2.2.1) (h : zWp d E.2.2.2.2.2.2.2 (0, zent E.2.2.1 as, [], S, M) Q) : zSp (d + 1) k as S M Q := by
  obtain ⟨n, r, S', M', hg, hq⟩ := h
  exact ⟨r, S', M', ⟨E, n, hE, hl, hg⟩, hq⟩
theorem zGo_sub {C C2 : Nat → List zV → List zC → zM → Option zV → List zC → zM → Prop} (hC : ∀ k as S M r S' M', C k as S M r S' M' → C2 k as S M r S' M') {cd : List (Option zR)} : ∀ (n : Nat) (s : zS) (r : Option zV) (S' : List zC) (M' : zM), zGo zdef C cd n s r S' M' → zGo zdef C2 cd n s r S' M'
  | 0, _, _, _, _, h => h.elim
  | n + 1, s, r, S', M', h => by
    obtain ⟨w, hcd, h | h | h⟩ := h
    · obtain ⟨hk, s2, hs, hg⟩ := h
      exact ⟨w, hcd, Or.inl ⟨hk, s2, hs, zGo_sub hC n _ _ _ _ hg⟩⟩
    · obtain ⟨hk, k, as, rest, v, S1, M1, h2, h3, hg⟩ := h
      exact ⟨w, hcd, Or.inr (Or.inl ⟨hk, k, as, rest, v, S1, M1, h2, hC _ _ _ _ _ _ _ h3, zGo_sub hC n _ _ _ _ hg⟩)⟩
    · exact ⟨w, hcd, Or.inr (Or.inr h)⟩
theorem zCR_succ : ∀ (d k : Nat) (as : List zV) (S : List zC) (M : zM) (r : Option zV) (S' : List zC) (M' : zM), zCR d k as S M r S' M' → zCR (d + 1) k as S M r S' M'
  | 0, _, _, _, _, _, _, _, h => h.elim
  | d + 1, k, as, S, M, r, S', M', h => by
    obtain ⟨E, n, h1, h2, hg⟩ := h
    exact ⟨E, n, h1, h2, zGo_sub (zCR_succ d) n _ _ _ _ hg⟩
theorem zSp_mono {d d2 k : Nat} {as : List zV} {S : List zC} {M : zM} {Q : Option zV → List zC → zM → Prop} (hd : d ≤ d2) (h : zSp d k as S M Q) : zSp d2 k as S M Q := by
  obtain ⟨j, rfl⟩ := Nat.exists_eq_add_of_le hd
  clear hd
  induction j with
  | zero => exact h
  | succ j ih =>
    obtain ⟨r, S', M', hc, hq⟩ := ih
    exact ⟨r, S', M', zCR_succ _ _ _ _ _ _ _ _ hc, hq⟩
theorem zwid {x : Int} (h1 : -2147483648 ≤ x) (h2 : x < 2147483648) : zw x = x := Int32.toInt_ofInt_of_le h1 h2
