/-! ALL ORDERS OF A FEW, and the plan that each of them gives -/
def ysc (p : Nat → Nat) : Nat → Nat
  | 0 => 0
  | m + 1 => bif Nat.ble (p m) (p (m + 1)) then m + 1 else ysc p m
def ysl (p : Nat → Nat) (x : Nat) : Nat → Nat
  | 0 => 0
  | m + 1 => bif Nat.ble x (p (m + 1)) then m + 1 else ysl p x m
def ynq (n : Nat) (p : Nat → Nat) (k l i : Nat) : Nat := bif Nat.blt i k then p i else bif Nat.beq i k then p l else bif Nat.beq (k + n - i) l then p k else p (k + n - i)
def yat (l : List Nat) (i : Nat) : Nat := l.getD i 0
/-- the next row -/
def ynx (n : Nat) (l : List Nat) : Option (List Nat) := match ysc (yat l) (n - 1) with
  | 0 => none
  | k + 1 => some ((List.range n).map (ynq n (yat l) k (ysl (yat l) (yat l k) (n - 1))))
def yprm : Nat → List Nat → List (List Nat)
  | 0, _ => [[]]
  | m + 1, l => l.flatMap (fun x => (yprm m (l.erase x)).map (x :: ·))
def yeq : List Nat → List Nat → Bool
  | [], [] => true
  | a :: l, b :: m => Nat.beq a b && yeq l m
  | _, _ => false
def ych (n : Nat) : List (List Nat) → Bool
  | [] => true
  | a :: t => (match t, ynx n a with
    | [], none => true
    | b :: _, some c => yeq c b
    | _, _ => false) && ych n t
theorem yeq_iff : ∀ a b : List Nat, yeq a b = true → a = b
  | [], [], _ => rfl
  | a :: l, b :: m, h => by
    have h : (Nat.beq a b && yeq l m) = true := h
    rw [Bool.and_eq_true] at h
    rw [Nat.eq_of_beq_eq_true h.1, yeq_iff l m h.2]
theorem ych7 : ych 7 (yprm 7 (List.range 7)) = true := by decide +kernel
theorem ych6 : ∀ n : Fin 7, ych n.val (yprm n.val (List.range n.val)) = true := by decide +kernel
theorem ych_all {n : Nat} (h : n ≤ 7) : ych n (yprm n (List.range n)) = true := by
  by_cases h7 : n = 7
  · rw [h7]
    exact ych7
  · exact ych6 ⟨n, by omega⟩
theorem yprm_iff : ∀ (m : Nat) (l k : List Nat), l.length = m → (k ∈ yprm m l ↔ k.Perm l)
  | 0, l, k, h => by
    have hl : l = [] := List.length_eq_zero_iff.mp h
    subst hl
    show k ∈ [[]] ↔ _
    rw [List.mem_singleton, List.perm_nil]
  | m + 1, l, k, h => by
    show k ∈ l.flatMap (fun x => (yprm m (l.erase x)).map (x :: ·)) ↔ _
    rw [List.mem_flatMap]
    constructor
    · rintro ⟨x, hx, hk⟩
      obtain ⟨t, ht, rfl⟩ := List.mem_map.mp hk
      have := (yprm_iff m (l.erase x) t (by rw [List.length_erase_of_mem hx]; omega)).mp ht
      exact List.cons_perm_iff_perm_erase.mpr ⟨hx, this⟩
    · intro hp
      cases k with
      | nil =>
        have := hp.length_eq
        rw [h] at this
        cases this
      | cons x t =>
        obtain ⟨hx, ht⟩ := List.cons_perm_iff_perm_erase.mp hp
        exact ⟨x, hx, List.mem_map.mpr ⟨t, (yprm_iff m (l.erase x) t (by rw [List.length_erase_of_mem hx]; omega)).mpr ht, rfl⟩⟩
theorem yprm_hd : ∀ (m : Nat) (l : List Nat), l.length = m → ∃ t, yprm m l = l :: t
  | 0, l, h => by
    have hl : l = [] := List.length_eq_zero_iff.mp h
    subst hl
    exact ⟨[], rfl⟩
  | m + 1, l, h => by
    cases l with
    | nil => cases h
    | cons x l =>
      obtain ⟨t, ht⟩ := yprm_hd m l (by simpa using h)
      refine ⟨t.map (x :: ·) ++ l.flatMap (fun y => (yprm m ((x :: l).erase y)).map (y :: ·)), ?_⟩
      show (x :: l).flatMap _ = _
      rw [List.flatMap_cons, List.erase_cons_head, ht]
      rfl
theorem yat_map (n : Nat) (g : Nat → Nat) {i : Nat} (hi : i < n) : yat ((List.range n).map g) i = g i := by
  unfold yat
  rw [List.getD_eq_getElem?_getD, List.getElem?_map, List.getElem?_range hi]
  rfl
section ZY
variable {n : Nat} {l : List Nat}
theorem yat_len (hl : l.Perm (List.range n)) : l.length = n := by rw [hl.length_eq, List.length_range]
theorem yat_get (hl : l.Perm (List.range n)) {p : Nat} (hp : p < n) : ∃ h : p < l.length, yat l p = l[p] := by
  have := yat_len hl
  refine ⟨by omega, ?_⟩
  unfold yat
  rw [List.getD_eq_getElem?_getD, List.getElem?_eq_getElem (by omega)]
  rfl
theorem yat_lt (hl : l.Perm (List.range n)) {p : Nat} (hp : p < n) : yat l p < n := by
  obtain ⟨h, e⟩ := yat_get hl hp
  rw [e]
  exact List.mem_range.mp (hl.mem_iff.mp (List.getElem_mem h))
theorem yat_surj (hl : l.Perm (List.range n)) {i : Nat} (hi : i < n) : ∃ p, p < n ∧ yat l p = i := by
  have hm : i ∈ l := hl.mem_iff.mpr (List.mem_range.mpr hi)
  obtain ⟨p, hp, e⟩ := List.mem_iff_getElem.mp hm
  have := yat_len hl
  obtain ⟨h, e2⟩ := yat_get hl (p := p) (by omega)
  exact ⟨p, by omega, by rw [e2]; exact e⟩
theorem yat_inj (hl : l.Perm (List.range n)) {p q : Nat} (hp : p < n) (hq : q < n) (h : yat l p = yat l q) : p = q := by
  have hn : l.Nodup := hl.nodup_iff.mpr List.nodup_range
  obtain ⟨h1, e1⟩ := yat_get hl hp
  obtain ⟨h2, e2⟩ := yat_get hl hq
  rw [e1, e2] at h
  have hp2 := List.pairwise_iff_getElem.mp hn
  rcases Nat.lt_trichotomy p q with h3 | h3 | h3
  · exact absurd h (hp2 p q h1 h2 h3)
  · exact h3
  · exact absurd h.symm (hp2 q p h2 h1 h3)
theorem ycn_perm (hl : l.Perm (List.range n)) (c : Nat → Bool) : ycn (fun p => c (yat l p)) n = ycn c n := by
  have hc : ∀ (c : Nat → Bool) m, ycn c m = (List.range m).countP c := by
    intro c m
    induction m with
    | zero => rfl
    | succ m ih =>
      show ycn c m + (if c m = true then 1 else 0) = _
      rw [List.range_succ, List.countP_append, ih, List.countP_singleton]
  rw [hc, hc, ← hl.countP_eq c]
  have hm : (List.range n).map (yat l) = l := by
    refine List.ext_getElem (by rw [List.length_map, List.length_range, yat_len hl]) (fun i h1 h2 => ?_)
    rw [List.getElem_map, List.getElem_range]
    obtain ⟨h, e⟩ := yat_get hl (p := i) (by have := yat_len hl; omega)
    exact e
  have h2 := List.countP_map (p := c) (f := yat l) (l := List.range n)
  rw [hm] at h2
  rw [h2]
  rfl
theorem zct_perm (hl : l.Perm (List.range n)) (w : Nat → Int) (z : Int) : zct (fun p => w (yat l p)) z n = zct w z n := by
  rw [zct_cn, zct_cn]
  exact ycn_perm hl (fun i => decide (w i = z))
end ZY
theorem zct_le_of (w : Nat → Int) (z : Int) : ∀ {m n : Nat}, m ≤ n → zct w z m ≤ zct w z n
  | m, 0, h => by
    have : m = 0 := by omega
    subst this
    exact Nat.le_refl _
  | m, n + 1, h => by
    by_cases hm : m = n + 1
    · subst hm
      exact Nat.le_refl _
    · have := zct_le_of w z (m := m) (n := n) (by omega)
      show _ ≤ zct w z n + _
      omega
/-- the plan that an order gives -/
def yGr (P : zP) (ord : Nat → Nat) (f : Nat → Int) : Prop := ∀ k, k < pn P → zLc P ord f k (ylr P ord f (ord k) 0 k) (f (ord k))
def yKp (P : zP) (ord : Nat → Nat) : Prop := ∀ a b, a < b → b < pn P → ¬ (ord b < ord a ∧ 0 ≤ zdm P (ord b) (ord a))
theorem yGr_val {P : zP} (hw : zWf P) {l : List Nat} (hl : l.Perm (List.range (pn P))) {f : Nat → Int} (hk : yKp P (yat l)) (hg : yGr P (yat l) f) : yVp P f := by
  have h0 : ∀ k, k < pn P → 0 ≤ f (yat l k) := fun k hkn => by
    have h1 := (hg k hkn).1
    have h2 := ((ylr_le (P := P) (ord := yat l) (f := f) (j := yat l k) (c := 0) k).mp (Int.le_refl _)).1
    omega
  refine ⟨fun i hi => ?_, fun i j hij hj hd => ?_, fun z => ?_⟩
  · obtain ⟨p, hp, rfl⟩ := yat_surj hl hi
    exact h0 p hp
  · obtain ⟨p, hp, ep⟩ := yat_surj hl (i := i) (by omega)
    obtain ⟨r, hr, er⟩ := yat_surj hl hj
    have hz : 0 ≤ zdm P i j := (zdm_ge hw hj).mpr ⟨hij, hd⟩
    have hpr : p < r := by
      rcases Nat.lt_trichotomy p r with h | h | h
      · exact h
      · subst h
        omega
      · exact absurd ⟨by rw [ep, er]; exact hij, by rw [ep, er]; exact hz⟩ (hk r p h hp)
    have h1 := (hg r hr).1
    have h2 := ((ylr_le (P := P) (ord := yat l) (f := f) (j := yat l r) (c := 0) r).mp (Int.le_refl _)).2 p hpr (by rw [ep, er]; exact hz)
    rw [ep, er] at h2
    rw [er] at h1
    rw [zdm_dc hw hj hz] at h2
    omega
  · rw [← zct_perm hl f z]
    have : ∀ k, k ≤ pn P → zct (fun p => f (yat l p)) z k ≤ pu P := by
      intro k
      induction k with
      | zero => intro _; exact Nat.zero_le _
      | succ k ih =>
        intro hk2
        have h1 := ih (by omega)
        have h2 := (hg k (by omega)).2.1
        show zct (fun p => f (yat l p)) z k + (if f (yat l k) = z then 1 else 0) ≤ pu P
        split
        · rename_i h3
          rw [h3] at h2
          omega
        · omega
    exact this _ (Nat.le_refl _)
/-- the order of a plan -/
def yle (w : Nat → Int) (a b : Nat) : Bool := decide (w a < w b ∨ (w a = w b ∧ a ≤ b))
theorem ysort (w : Nat → Int) (n : Nat) : ∃ l : List Nat, l.Perm (List.range n) ∧ ∀ p q, p < q → q < n → yle w (yat l p) (yat l q) = true := by
  refine ⟨(List.range n).mergeSort (yle w), List.mergeSort_perm _ _, fun p q hpq hq => ?_⟩
  have hl := List.mergeSort_perm (List.range n) (yle w)
  have hs := List.pairwise_mergeSort (le := yle w) (fun a b c h1 h2 => by
    unfold yle at h1 h2 ⊢
    rw [decide_eq_true_eq] at h1 h2 ⊢
    omega) (fun a b => by
    unfold yle
    rw [Bool.or_eq_true, decide_eq_true_eq, decide_eq_true_eq]
    omega) (List.range n)
  obtain ⟨h1, e1⟩ := yat_get hl (p := p) (by omega)
  obtain ⟨h2, e2⟩ := yat_get hl hq
  rw [e1, e2]
  exact (List.pairwise_iff_getElem.mp hs) p q h1 h2 hpq
theorem ysort_kp {P : zP} (hw : zWf P) {w : Nat → Int} (hv : yVp P w) {l : List Nat} (hl : l.Perm (List.range (pn P))) (hs : ∀ p q, p < q → q < pn P → yle w (yat l p) (yat l q) = true) : yKp P (yat l) := by
  intro a b hab hb h
  have h1 := hs a b hab hb
  unfold yle at h1
  rw [decide_eq_true_eq] at h1
  have ha := yat_lt hl (p := a) (by omega)
  obtain ⟨h2, h3⟩ := (zdm_ge hw ha).mp h.2
  have h4 := hv.2.1 _ _ h2 ha h3
  have h5 := zdc_nn hw h2 ha h3
  omega
theorem yGr_le {P : zP} (hw : zWf P) {w f : Nat → Int} (hv : yVp P w) {l : List Nat} (hl : l.Perm (List.range (pn P))) (hs : ∀ p q, p < q → q < pn P → yle w (yat l p) (yat l q) = true) (hg : yGr P (yat l) f) : ∀ (k : Nat), k < pn P → f (yat l k) ≤ w (yat l k) := by
  intro k
  induction k using Nat.strongRecOn with
  | _ k ih =>
    intro hk
    apply Decidable.byContradiction
    intro hlt
    have hkn := yat_lt hl hk
    obtain ⟨g1, g2, g3⟩ := hg k hk
    have hsk : ∀ p, p < k → w (yat l p) ≤ w (yat l k) := fun p hp => by
      have := hs p k hp hk
      unfold yle at this
      rw [decide_eq_true_eq] at this
      omega
    have hx : ylr P (yat l) f (yat l k) 0 k ≤ w (yat l k) := by
      refine (ylr_le k).mpr ⟨hv.1 _ hkn, fun p hp hz => ?_⟩
      obtain ⟨q1, q2⟩ := (zdm_ge hw hkn).mp hz
      have q3 := hv.2.1 _ _ q1 hkn q2
      have q4 := ih p hp (by omega)
      rw [zdm_dc hw hkn hz]
      omega
    generalize hX : ylr P (yat l) f (yat l k) 0 k = x at *
    obtain ⟨T, hT⟩ : ∃ T : Nat, w (yat l k) - x + 1 = T := Int.eq_ofNat_of_zero_le (by omega)
    have b1 := ycn_lo (w := fun p => f (yat l p)) (u := pu P) (m := k) (c := x) T (fun z z1 z2 => g3 z z1 (by omega))
    have b2 : ycn (fun p => decide (x ≤ f (yat l p) ∧ f (yat l p) < x + T)) k ≤ ycn (fun p => decide (x ≤ w (yat l p) ∧ w (yat l p) < x + T)) k := ycn_mono k (fun p hp he => by
      rw [decide_eq_true_eq] at he ⊢
      have := ih p hp (by omega)
      have := hsk p hp
      omega)
    have b3 := ycn_up (w := fun p => w (yat l p)) (u := pu P) (m := k + 1) (c := x) (fun z => Nat.le_trans (zct_le_of _ z (show k + 1 ≤ pn P by omega)) (by rw [zct_perm hl]; exact hv.2.2 z)) T (fun p => decide (x ≤ w (yat l p) ∧ w (yat l p) < x + T)) (fun p hp he => by
      rw [decide_eq_true_eq] at he
      exact he)
    have b4 : ycn (fun p => decide (x ≤ w (yat l p) ∧ w (yat l p) < x + T)) (k + 1) = ycn (fun p => decide (x ≤ w (yat l p) ∧ w (yat l p) < x + T)) k + 1 := by
      show _ + (if decide (x ≤ w (yat l k) ∧ w (yat l k) < x + T) = true then 1 else 0) = _
      rw [if_pos (by rw [decide_eq_true_eq]; omega)]
    omega
/-- the least of all orders' plans is the least of all plans -/
theorem yall {P : zP} (hw : zWf P) {b : Int} (h1 : ∃ l : List Nat, l.Perm (List.range (pn P)) ∧ yKp P (yat l) ∧ ∃ f, yGr P (yat l) f ∧ zlen P f (pn P) = b) (h2 : ∀ l : List Nat, l.Perm (List.range (pn P)) → yKp P (yat l) → ∃ f, yGr P (yat l) f ∧ b ≤ zlen P f (pn P)) : yOpt P b := by
  refine ⟨?_, fun w hv => ?_⟩
  · obtain ⟨l, hl, hk, f, hf, e⟩ := h1
    exact ⟨f, yGr_val hw hl hk hf, e⟩
  · obtain ⟨l, hl, hs⟩ := ysort w (pn P)
    obtain ⟨f, hf, hb⟩ := h2 l hl (ysort_kp hw hv hl hs)
    refine Int.le_trans hb (zlen_mono _ (fun i hi => ?_))
    obtain ⟨p, hp, rfl⟩ := yat_surj hl hi
    exact yGr_le hw hv hl hs hf p hp
