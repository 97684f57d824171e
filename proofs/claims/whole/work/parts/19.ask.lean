/-! QUESTIONS about a tree: the path, the least label and weight on it, places, classes. -/
def omin : Option Nat → Option Nat → Option Nat
  | none, b => b
  | some a, none => some a
  | some a, some b => some (if b < a then b else a)
def lst (g : Nat → Option Nat) : Nat → Option Nat
  | 0 => none
  | m + 1 => omin (lst g m) (g m)
theorem lst_none {g : Nat → Option Nat} : ∀ m, lst g m = none → ∀ i, i < m → g i = none
  | 0, _, i, hi => absurd hi (by omega)
  | m + 1, h, i, hi => by
    rw [lst] at h
    cases h1 : lst g m with
    | none =>
      rw [h1] at h
      by_cases e : i = m
      · subst e; exact h
      · exact lst_none m h1 i (by omega)
    | some a =>
      rw [h1] at h
      cases h2 : g m <;> rw [h2] at h <;> cases h
theorem lst_some {g : Nat → Option Nat} : ∀ m w, lst g m = some w → (∃ i, i < m ∧ g i = some w) ∧ ∀ i v, i < m → g i = some v → w ≤ v
  | 0, w, h => by cases h
  | m + 1, w, h => by
    rw [lst] at h
    cases h1 : lst g m with
    | none =>
      rw [h1] at h
      have h2 : g m = some w := h
      refine ⟨⟨m, by omega, h2⟩, fun i v hi hv => ?_⟩
      by_cases e : i = m
      · subst e; rw [h2] at hv; cases hv; exact Nat.le_refl _
      · rw [lst_none m h1 i (by omega)] at hv; cases hv
    | some a =>
      obtain ⟨⟨i0, hi0, hg0⟩, hall⟩ := lst_some m a h1
      rw [h1] at h
      cases h2 : g m with
      | none =>
        rw [h2] at h
        have e9 : a = w := Option.some.inj h
        subst e9
        refine ⟨⟨i0, by omega, hg0⟩, fun i v hi hv => ?_⟩
        by_cases e : i = m
        · subst e; rw [h2] at hv; cases hv
        · exact hall i v (by omega) hv
      | some b =>
        rw [h2] at h
        have e9 : (if b < a then b else a) = w := Option.some.inj h
        by_cases hb : b < a
        · rw [if_pos hb] at e9
          subst e9
          refine ⟨⟨m, by omega, h2⟩, fun i v hi hv => ?_⟩
          by_cases e : i = m
          · subst e; rw [h2] at hv; cases hv; exact Nat.le_refl _
          · have := hall i v (by omega) hv; omega
        · rw [if_neg hb] at e9
          subst e9
          refine ⟨⟨i0, by omega, hg0⟩, fun i v hi hv => ?_⟩
          by_cases e : i = m
          · subst e; rw [h2] at hv; cases hv; omega
          · exact hall i v (by omega) hv
theorem lst_ex {g : Nat → Option Nat} {m i v : Nat} (hi : i < m) (h : g i = some v) : ∃ w, lst g m = some w := by
  cases e : lst g m with
  | none => rw [lst_none m e i hi] at h; cases h
  | some w => exact ⟨w, rfl⟩
/-- is k on the path of s and t -/
def onp (n : Nat) (p : Nat → Nat) (s t k : Nat) : Bool := decide (0 < k) && sep (sd n p k) s t
def gl (n : Nat) (p la : Nat → Nat) (s t k : Nat) : Option Nat := if onp n p s t k = true then some (la k) else none
def gw (n : Nat) (p : Nat → Nat) (K : Nat → Nat → Nat) (s t k : Nat) : Option Nat := if onp n p s t k = true then some (wt n K (sd n p k)) else none
/-- the least label on the path; the least weight of a side on the path -/
def lm (n : Nat) (p la : Nat → Nat) (s t : Nat) : Nat := (lst (gl n p la s t) n).getD 0
def lw (n : Nat) (p : Nat → Nat) (K : Nat → Nat → Nat) (s t : Nat) : Nat := (lst (gw n p K s t) n).getD 0
theorem it_per {n : Nat} {p : Nat → Nat} (h : tI n p) {x m : Nat} (hx : x < n) (hm : 0 < m) (e : it p m x = x) : x = 0 := by
  obtain ⟨D, hD⟩ := h.2.2 x hx
  have key : ∀ k, it p (k * m) x = x := by
    intro k
    induction k with
    | zero => rw [Nat.zero_mul]; rfl
    | succ k ih => rw [Nat.succ_mul, it_add, e]; exact ih
  have h2 := key D
  have : D ≤ D * m := Nat.le_mul_of_pos_right D hm
  rw [show D * m = (D * m - D) + D by omega, it_add, hD, it_zero h.1] at h2
  exact h2.symm
theorem it_anti {n : Nat} {p : Nat → Nat} (h : tI n p) {x y d e : Nat} (hx : x < n) (h1 : it p d x = y) (h2 : it p e y = x) : x = y := by
  have h3 : it p (e + d) x = x := by rw [it_add, h1, h2]
  by_cases h0 : e + d = 0
  · have : d = 0 := by omega
    subst this
    exact h1
  · have := it_per h hx (by omega) h3
    subst this
    rw [it_zero h.1] at h1
    exact h1
theorem sd_anti {n : Nat} {p : Nat → Nat} (h : tI n p) {x y : Nat} (hx : x < n) (hy : y < n) (h1 : (sd n p x).testBit y = true) (h2 : (sd n p y).testBit x = true) : x = y := by
  obtain ⟨d, hd⟩ := (sd_iff h hy).mp h1
  obtain ⟨e, he⟩ := (sd_iff h hx).mp h2
  exact it_anti h hx he hd
theorem sd_no0 {n : Nat} {p : Nat → Nat} (h : tI n p) {k : Nat} (hn : 0 < n) (hk : k ≠ 0) : (sd n p k).testBit 0 = false := by
  cases e : (sd n p k).testBit 0 with
  | false => rfl
  | true =>
    obtain ⟨d, hd⟩ := (sd_iff h hn).mp e
    rw [it_zero h.1] at hd
    exact absurd hd.symm hk
theorem sep_sym (S s t : Nat) : sep S s t = sep S t s := by
  unfold sep
  cases S.testBit s <;> cases S.testBit t <;> rfl
/-- two different nodes have a path -/
theorem path_ex {n : Nat} {p : Nat → Nat} (h : tI n p) {s t : Nat} (hs : s < n) (ht : t < n) (hst : s ≠ t) : ∃ k, k < n ∧ onp n p s t k = true := by
  have half : ∀ s t, s < n → t < n → s ≠ t → s ≠ 0 → ∃ k, k < n ∧ onp n p s t k = true := by
    intro s t hs ht hst hs0
    cases e : (sd n p s).testBit t with
    | false => exact ⟨s, hs, by simp [onp, sep, sd_self h hs, e]; omega⟩
    | true =>
      have ht0 : t ≠ 0 := fun q => by rw [q, sd_no0 h (by omega) hs0] at e; cases e
      cases e2 : (sd n p t).testBit s with
      | false => exact ⟨t, ht, by simp [onp, sep, sd_self h ht, e2]; omega⟩
      | true => exact absurd (sd_anti h hs ht e e2) hst
  by_cases h0 : s = 0
  · obtain ⟨k, h1, h2⟩ := half t s ht hs (Ne.symm hst) (by omega)
    exact ⟨k, h1, by rw [onp, sep_sym]; exact h2⟩
  · exact half s t hs ht hst h0
theorem lm_spec {n : Nat} {p : Nat → Nat} (la : Nat → Nat) (h : tI n p) {s t : Nat} (hs : s < n) (ht : t < n) (hst : s ≠ t) : lst (gl n p la s t) n = some (lm n p la s t) := by
  obtain ⟨k, h1, h2⟩ := path_ex h hs ht hst
  obtain ⟨w, hw⟩ := lst_ex (g := gl n p la s t) h1 (if_pos h2)
  unfold lm
  rw [hw]
  rfl
theorem lw_spec {n : Nat} {p : Nat → Nat} (K : Nat → Nat → Nat) (h : tI n p) {s t : Nat} (hs : s < n) (ht : t < n) (hst : s ≠ t) : lst (gw n p K s t) n = some (lw n p K s t) := by
  obtain ⟨k, h1, h2⟩ := path_ex h hs ht hst
  obtain ⟨w, hw⟩ := lst_ex (g := gw n p K s t) h1 (if_pos h2)
  unfold lw
  rw [hw]
  rfl
theorem gl_sym (n : Nat) (p la : Nat → Nat) (s t : Nat) : gl n p la s t = gl n p la t s := by
  funext k
  unfold gl onp
  rw [sep_sym]
theorem lm_sym (n : Nat) (p la : Nat → Nat) (s t : Nat) : lm n p la s t = lm n p la t s := by
  unfold lm; rw [gl_sym]
theorem lst_bound {g : Nat → Option Nat} {b : Nat} (h : ∀ i v, g i = some v → v ≤ b) : ∀ m w, lst g m = some w → w ≤ b := fun m w hw => by
  obtain ⟨⟨i, _, hi⟩, _⟩ := lst_some m w hw
  exact h i w hi
theorem lm_le {n : Nat} {p la : Nat → Nat} {b : Nat} (h : ∀ k, la k ≤ b) (s t : Nat) : lm n p la s t ≤ b := by
  unfold lm
  cases e : lst (gl n p la s t) n with
  | none => exact Nat.zero_le _
  | some w => exact lst_bound (fun i v hv => by
      unfold gl at hv
      split at hv
      · cases hv; exact h i
      · cases hv) n w e
theorem lw_le {n : Nat} {p : Nat → Nat} {K : Nat → Nat → Nat} (hK : ∀ i j, K i j ≤ 999) (hn : n ≤ 12) (s t : Nat) : lw n p K s t ≤ 143856 := by
  unfold lw
  cases e : lst (gw n p K s t) n with
  | none => exact Nat.zero_le _
  | some w => exact lst_bound (fun i v hv => by
      unfold gw at hv
      split at hv
      · cases hv; exact wt_bound hK hn _
      · cases hv) n w e
/-- a number that grows on the way from s -/
def plc (n : Nat) (p : Nat → Nat) (s k : Nat) : Nat := if (sd n p k).testBit s = true then cnt 12 (sd n p k) else 24 - cnt 12 (sd n p k)
/-- the node of the lightest side on the way, the first of several -/
def isB (n : Nat) (p : Nat → Nat) (K : Nat → Nat → Nat) (s t m b : Nat) : Prop := b < m ∧ onp n p s t b = true ∧ ∀ k, k < m → onp n p s t k = true → wt n K (sd n p b) < wt n K (sd n p k) ∨ (wt n K (sd n p b) = wt n K (sd n p k) ∧ plc n p s b ≤ plc n p s k)
theorem isB_lw {n : Nat} {p : Nat → Nat} {K : Nat → Nat → Nat} {s t b : Nat} (h : tI n p) (hs : s < n) (ht : t < n) (hst : s ≠ t) (hb : isB n p K s t n b) : lw n p K s t = wt n K (sd n p b) := by
  obtain ⟨⟨i, hi, hg⟩, hall⟩ := lst_some n _ (lw_spec K h hs ht hst)
  have h1 := hall b (wt n K (sd n p b)) hb.1 (if_pos hb.2.1)
  have e : onp n p s t i = true := by
    cases q : onp n p s t i with
    | true => rfl
    | false => rw [gw, q] at hg; cases hg
  have e2 : wt n K (sd n p i) = lw n p K s t := by
    rw [gw, if_pos e] at hg
    exact Option.some.inj hg
  have h2 := hb.2.2 i hi e
  omega
/-- how many nodes come before k in the order by labels -/
def ltf (la : Nat → Nat) (k x : Nat) : Nat := if 0 < x ∧ (la x < la k ∨ la x = la k ∧ x < k) then 1 else 0
def ltn (n : Nat) (la : Nat → Nat) (k : Nat) : Nat := sm (fun x => ltf la k x) n
theorem ltn_le (n : Nat) (la : Nat → Nat) (k : Nat) : ltn n la k ≤ n := by
  have := sm_bound (f := fun x => ltf la k x) (n := n) (b := 1) (fun i _ => by unfold ltf; split <;> omega)
  unfold ltn; omega
def fst1 (f : Nat → Bool) : Nat → Nat → Option Nat
  | 0, _ => none
  | c + 1, k => if f k = true then some k else fst1 f c (k + 1)
def o2i (o : Option Nat) : Int32 := match o with
  | some k => nI k
  | none => -5
def lbf (la : Nat → Nat) (l x : Nat) : Nat := if 0 < x ∧ la x < l then 1 else 0
def lbn (n : Nat) (la : Nat → Nat) (l : Nat) : Nat := sm (fun x => lbf la l x) n
/-- the class of a node -/
def clf (n : Nat) (p la : Nat → Nat) (l u o : Nat) : Bool := decide (o ≠ u) && decide (l ≤ lm n p la u o)
def cls0 (n : Nat) (p la : Nat → Nat) (l u m : Nat) : Nat := 2 ^ u ||| bset (fun o => clf n p la l u o) m
/-- the node that is tied most to u -/
def mst (f : Nat → Nat) (u : Nat) : Nat → Option (Nat × Nat)
  | 0 => none
  | m + 1 => if m = u then mst f u m else match mst f u m with
    | none => some (m, f m)
    | some (b, v) => if v < f m then some (m, f m) else some (b, v)
/-- the least of f over the pairs that S parts -/
def isLA (n : Nat) (f : Nat → Nat → Nat) (S w : Nat) : Prop := (∃ u v, u < n ∧ v < n ∧ S.testBit u = true ∧ S.testBit v = false ∧ f u v = w) ∧ ∀ u v, u < n → v < n → S.testBit u = true → S.testBit v = false → w ≤ f u v
theorem isLA_uniq {n : Nat} {f : Nat → Nat → Nat} {S w x : Nat} (h1 : isLA n f S w) (h2 : isLA n f S x) : w = x := by
  obtain ⟨⟨u, v, a1, a2, a3, a4, a5⟩, a6⟩ := h1
  obtain ⟨⟨u', v', b1, b2, b3, b4, b5⟩, b6⟩ := h2
  have c1 := a6 u' v' b1 b2 b3 b4
  have c2 := b6 u v a1 a2 a3 a4
  omega
/-- a cut has a node inside and one outside -/
theorem cut_ex {n S : Nat} (h0 : 0 < S) (h1 : S < 2 ^ n - 1) : ∃ u v, u < n ∧ v < n ∧ S.testBit u = true ∧ S.testBit v = false := by
  have hin : ∃ u, S.testBit u = true := by
    obtain ⟨i, hi⟩ := Nat.exists_testBit_of_ne_zero (by omega : S ≠ 0)
    exact ⟨i, hi⟩
  obtain ⟨u, hu⟩ := hin
  have hout : ∃ v, v < n ∧ S.testBit v = false := by
    by_cases h : ∃ v, v < n ∧ S.testBit v = false
    · exact h
    · exfalso
      have e : S = 2 ^ n - 1 := by
        apply Nat.eq_of_testBit_eq
        intro i
        rw [Nat.testBit_two_pow_sub_one]
        by_cases hi : i < n
        · cases q : S.testBit i with
          | true => simp [hi]
          | false => exact absurd ⟨i, hi, q⟩ h
        · rw [Nat.testBit_lt_two_pow (Nat.lt_of_lt_of_le (by omega : S < 2 ^ n) (Nat.pow_le_pow_right (by decide) (by omega)))]
          simp [hi]
      omega
  obtain ⟨v, hv, hv2⟩ := hout
  exact ⟨u, v, lt_of_bit (by omega) hu, hv, hu, hv2⟩
/-- Integer.bitCount, as its code counts -/
def bcU (x y : Int32) : Int32 := (x.toUInt32 >>> (y.toUInt32 &&& Int32.toUInt32 31)).toInt32
def bc1 (a : Int32) : Int32 := a - (bcU a 1 &&& 1431655765)
def bc2 (a : Int32) : Int32 := (a &&& 858993459) + (bcU a 2 &&& 858993459)
def bc3 (a : Int32) : Int32 := (a + bcU a 4) &&& 252645135
def bc4 (a : Int32) : Int32 := a + bcU a 8
def bc5 (a : Int32) : Int32 := a + bcU a 16
def bcE (a : Int32) : Int32 := bc5 (bc4 (bc3 (bc2 (bc1 a)))) &&& 63
theorem bc_all : ∀ a, a < 64 → ∀ b, b < 64 → bcE (nI (64 * a + b)) = nI (cnt 12 (64 * a + b)) := by decide +kernel
theorem bc_spec {S : Nat} (h : S < 4096) : bcE (nI S) = nI (cnt 12 S) := by
  have := bc_all (S / 64) (by omega) (S % 64) (Nat.mod_lt _ (by decide))
  rw [show 64 * (S / 64) + S % 64 = S by omega] at this
  exact this

