/-! THE WAY FROM s TO t: the reference's witness is the component's. CLASSES: how many there are. -/
theorem cnt_mono {m A B : Nat} (h : ∀ k, A.testBit k = true → B.testBit k = true) : cnt m A ≤ cnt m B := sm_le (fun k _ => by
  cases e : A.testBit k with
  | false => simp
  | true => simp [h k e])
theorem cnt_strict {m A B x : Nat} (h : ∀ k, A.testBit k = true → B.testBit k = true) (hx : x < m) (h1 : B.testBit x = true) (h2 : A.testBit x = false) : cnt m A < cnt m B := by
  have e := cnt_add hx h2
  have l : cnt m (A ||| 2 ^ x) ≤ cnt m B := cnt_mono (fun k hk => by
    rw [bit_or] at hk
    cases q : A.testBit k with
    | true => exact h k q
    | false =>
      rw [q] at hk
      have : x = k := by simpa using hk
      subst this; exact h1)
  omega
theorem sd_mono {n : Nat} {p : Nat → Nat} (h : tI n p) {x y d : Nat} (e : it p d x = y) (k : Nat) (hk : (sd n p x).testBit k = true) : (sd n p y).testBit k = true := by
  have hkn := sd_lt' hk
  obtain ⟨j, hj⟩ := (sd_iff h hkn).mp hk
  exact (sd_iff h hkn).mpr ⟨d + j, by rw [it_add, hj, e]⟩
theorem sd_strict {n : Nat} {p : Nat → Nat} (h : tI n p) (hn : n ≤ 12) {x y d : Nat} (hx : x < n) (hy : y < n) (e : it p d x = y) (hne : x ≠ y) : cnt 12 (sd n p x) < cnt 12 (sd n p y) := by
  refine cnt_strict (sd_mono h e) (by omega : y < 12) (sd_self h hy) ?_
  cases q : (sd n p x).testBit y with
  | false => rfl
  | true =>
    obtain ⟨j, hj⟩ := (sd_iff h hy).mp q
    exact absurd (it_anti h hx e hj) hne
/-- case A: the node is above s: no node below it on the way is as light -/
theorem wit_up {n : Nat} {p : Nat → Nat} {K : Nat → Nat → Nat} {s t q : Nat} (h : tI n p) (hn : n ≤ 12) (hs : s < n) (hq : isB n p K s t n q) (hb : (sd n p q).testBit s = true) {m D : Nat} (hD : it p D s = q) (hmin : ∀ j, j < D → it p j s ≠ q) (hm : m < D) : it p m s ≠ 0 ∧ ¬ (onp n p s t (it p m s) = true ∧ wt n K (sd n p (it p m s)) = wt n K (sd n p q)) := by
  have hq0 : 0 < q := by
    have := hq.2.1
    simp only [onp, Bool.and_eq_true, decide_eq_true_eq] at this
    exact this.1
  have hat := it_lt h m s hs
  refine ⟨fun e => ?_, fun ⟨h1, h2⟩ => ?_⟩
  · rw [show D = (D - m) + m by omega, it_add, e, it_zero h.1] at hD
    omega
  · have e1 : it p (D - m) (it p m s) = q := by rw [← it_add, show D - m + m = D by omega]; exact hD
    have l := sd_strict h hn hat hq.1 e1 (hmin m hm)
    have sb : (sd n p (it p m s)).testBit s = true := (sd_iff h hs).mpr ⟨m, rfl⟩
    rcases hq.2.2 _ hat h1 with g | ⟨-, g⟩
    · omega
    · rw [plc, plc, if_pos hb, if_pos sb] at g
      omega
theorem cnt_lt12 {n x S : Nat} (hn : n ≤ 12) (hx : x < n) (h : S.testBit x = false) : cnt 12 S ≤ 11 := by
  have := cnt_lt (n := 12) (by omega : x < 12) h
  omega
/-- case B: the node is above t: no node above s is as light -/
theorem wit_no {n : Nat} {p : Nat → Nat} {K : Nat → Nat → Nat} {s t q : Nat} (h : tI n p) (hn : n ≤ 12) (hs : s < n) (ht : t < n) (hq : isB n p K s t n q) (hb : (sd n p q).testBit s = false) {at' : Nat} (hat : at' < n) (hs2 : (sd n p at').testBit s = true) : ¬ (onp n p s t at' = true ∧ wt n K (sd n p at') = wt n K (sd n p q)) := by
  rintro ⟨h1, h2⟩
  have tb : (sd n p at').testBit t = false := by
    simp only [onp, sep, Bool.and_eq_true, hs2] at h1
    cases e : (sd n p at').testBit t with
    | false => rfl
    | true => rw [e] at h1; exact absurd h1.2 (by decide)
  have c1 := cnt_lt12 hn ht tb
  have c2 := cnt_lt12 hn hs hb
  rcases hq.2.2 _ hat h1 with g | ⟨-, g⟩
  · omega
  · rw [plc, plc, if_neg (by rw [hb]; decide), if_pos hs2] at g
    omega
/-- case B: no node above the node is as light and on the path -/
theorem wit_top {n : Nat} {p : Nat → Nat} {K : Nat → Nat → Nat} {s t q : Nat} (h : tI n p) (hn : n ≤ 12) (ht : t < n) (hq : isB n p K s t n q) (hb : (sd n p q).testBit s = false) {m D : Nat} (hD : it p D t = q) (hm : D < m) (h0 : it p m t ≠ 0) : ¬ (onp n p s t (it p m t) = true ∧ wt n K (sd n p (it p m t)) = wt n K (sd n p q)) := by
  rintro ⟨h1, h2⟩
  have hat := it_lt h m t ht
  have e1 : it p (m - D) q = it p m t := by rw [← hD, ← it_add, show m - D + D = m by omega]
  have hne : q ≠ it p m t := fun e => by
    have := it_per h hq.1 (by omega : 0 < m - D) (e1.trans e.symm)
    have g := hq.2.1
    rw [this] at g
    simp [onp] at g
  have l := sd_strict h hn hq.1 hat e1 hne
  have tb : (sd n p (it p m t)).testBit t = true := (sd_iff h ht).mpr ⟨m, rfl⟩
  have sb : (sd n p (it p m t)).testBit s = false := by
    simp only [onp, sep, Bool.and_eq_true, tb] at h1
    cases e : (sd n p (it p m t)).testBit s with
    | false => rfl
    | true => rw [e] at h1; exact absurd h1.2 (by decide)
  have c1 := cnt_le 12 (sd n p (it p m t))
  rcases hq.2.2 _ hat h1 with g | ⟨-, g⟩
  · omega
  · rw [plc, plc, if_neg (by rw [hb]; decide), if_neg (by rw [sb]; decide)] at g
    omega
/-- the first node on the way up that is 0 or has a label below l -/
def stp (la : Nat → Nat) (l y : Nat) : Prop := y = 0 ∨ la y < l
def topf (p la : Nat → Nat) (l : Nat) : Nat → Nat → Nat
  | 0, x => x
  | d + 1, x => if x = 0 ∨ la x < l then x else topf p la l d (p x)
theorem topf_spec {p la : Nat → Nat} {l : Nat} (h0 : p 0 = 0) : ∀ (f x : Nat), (∃ d, d ≤ f ∧ it p d x = 0) → stp la l (topf p la l f x) ∧ (∃ e, it p e x = topf p la l f x) ∧ ∀ d a, it p d x = a → stp la l a → ∃ e, it p e (topf p la l f x) = a
  | 0, x, h => by
    obtain ⟨d, hd, hx⟩ := h
    obtain rfl : d = 0 := by omega
    obtain rfl : x = 0 := hx
    exact ⟨Or.inl rfl, ⟨0, rfl⟩, fun d a ha _ => ⟨d, ha⟩⟩
  | f + 1, x, h => by
    rw [topf]
    by_cases c : x = 0 ∨ la x < l
    · rw [if_pos c]
      exact ⟨c, ⟨0, rfl⟩, fun d a ha _ => ⟨d, ha⟩⟩
    · rw [if_neg c]
      obtain ⟨d, hd, hx⟩ := h
      have hp : ∃ d, d ≤ f ∧ it p d (p x) = 0 := by
        cases d with
        | zero => exact absurd (Or.inl hx) c
        | succ d => exact ⟨d, by omega, hx⟩
      obtain ⟨g1, ⟨e, g2⟩, g3⟩ := topf_spec h0 f (p x) hp
      refine ⟨g1, ⟨e + 1, g2⟩, fun d a ha hst => ?_⟩
      cases d with
      | zero =>
        have : x = a := ha
        subst this
        exact absurd hst c
      | succ d => exact g3 d a ha hst
def top (n : Nat) (p la : Nat → Nat) (l x : Nat) : Nat := topf p la l n x
theorem top_spec {n : Nat} {p : Nat → Nat} (la : Nat → Nat) (l : Nat) (h : tI n p) {x : Nat} (hx : x < n) : top n p la l x < n ∧ stp la l (top n p la l x) ∧ (sd n p (top n p la l x)).testBit x = true ∧ ∀ a, (sd n p a).testBit x = true → stp la l a → (sd n p a).testBit (top n p la l x) = true := by
  obtain ⟨d, hd, h0⟩ := tI_depth h hx
  obtain ⟨g1, ⟨e, g2⟩, g3⟩ := topf_spec (la := la) (l := l) h.1 n x ⟨d, by omega, h0⟩
  have hlt : top n p la l x < n := by
    unfold top
    rw [← g2]
    exact it_lt h e x hx
  refine ⟨hlt, g1, (sd_iff h hx).mpr ⟨e, g2⟩, fun a ha hst => ?_⟩
  obtain ⟨j, hj⟩ := (sd_iff h hx).mp ha
  exact (sd_iff h hlt).mpr (g3 j a hj hst)
theorem sd_trans {n : Nat} {p : Nat → Nat} (h : tI n p) {x y z : Nat} (h1 : (sd n p x).testBit y = true) (h2 : (sd n p y).testBit z = true) : (sd n p x).testBit z = true := by
  have hy := sd_lt' h1
  obtain ⟨d, hd⟩ := (sd_iff h hy).mp h1
  exact sd_mono h hd z h2
/-- two nodes are tied if and only if they have the same top -/
theorem top_iff {n : Nat} {p la : Nat → Nat} {l x y : Nat} (h : tI n p) (hx : x < n) (hy : y < n) (hxy : x ≠ y) : l ≤ lm n p la x y ↔ top n p la l x = top n p la l y := by
  obtain ⟨⟨k0, hk0, hg0⟩, hall⟩ := lst_some n _ (lm_spec la h hx hy hxy)
  obtain ⟨a1, a2, a3, a4⟩ := top_spec la l h hx
  obtain ⟨b1, b2, b3, b4⟩ := top_spec la l h hy
  constructor
  · intro hl
    have inside : ∀ x y, x < n → y < n → (∀ k, k < n → onp n p x y k = true → l ≤ la k) → ∀ a, a < n → stp la l a → (sd n p a).testBit x = true → (sd n p a).testBit y = true := by
      intro x y hx hy hpath a ha hst hax
      rcases hst with h0 | hlt
      · rw [h0]; exact (sd_iff h hy).mpr (h.2.2 y hy)
      · cases e : (sd n p a).testBit y with
        | true => rfl
        | false =>
          by_cases ha0 : a = 0
          · rw [ha0, (sd_iff h hy).mpr (h.2.2 y hy)] at e; cases e
          · have := hpath a ha (by simp [onp, sep, hax, e]; omega)
            omega
    have path : ∀ k, k < n → onp n p x y k = true → l ≤ la k := fun k hk ho => Nat.le_trans hl (hall k (la k) hk (if_pos ho))
    have path' : ∀ k, k < n → onp n p y x k = true → l ≤ la k := fun k hk ho => path k hk (by rw [onp, sep_sym]; exact ho)
    have c1 := inside x y hx hy path _ a1 a2 a3
    have c2 := inside y x hy hx path' _ b1 b2 b3
    exact sd_anti h a1 b1 (b4 _ c1 a2) (a4 _ c2 b2)
  · intro he
    have ho : onp n p x y k0 = true := by
      cases q : onp n p x y k0 with
      | true => rfl
      | false => rw [gl, q] at hg0; cases hg0
    have hla : la k0 = lm n p la x y := by
      rw [gl, if_pos ho] at hg0
      exact Option.some.inj hg0
    rcases Nat.lt_or_ge (lm n p la x y) l with q | q
    · exfalso
      have hst : stp la l k0 := Or.inr (by omega)
      have half : ∀ x y, top n p la l x = top n p la l y → (sd n p (top n p la l y)).testBit y = true → (∀ a, (sd n p a).testBit x = true → stp la l a → (sd n p a).testBit (top n p la l x) = true) → (sd n p k0).testBit x = true → (sd n p k0).testBit y = true := by
        intro x y he hy3 hx4 hk
        have := hx4 k0 hk hst
        rw [he] at this
        exact sd_trans h this hy3
      simp only [onp, sep, Bool.and_eq_true] at ho
      cases e1 : (sd n p k0).testBit x with
      | true =>
        rw [e1, half x y he b3 a4 e1] at ho
        exact absurd ho.2 (by decide)
      | false =>
        cases e2 : (sd n p k0).testBit y with
        | true => rw [half y x he.symm a3 b4 e2] at e1; cases e1
        | false => rw [e1, e2] at ho; exact absurd ho.2 (by decide)
    · exact q
/-- is k the lowest node of its class, as the reference looks at it -/
def rpb (n : Nat) (p la : Nat → Nat) (l k : Nat) : Bool := decide (cls0 n p la l k n &&& (2 ^ k - 1) = 0)
theorem rpb_iff {n : Nat} {p la : Nat → Nat} {l k : Nat} (h : tI n p) (hk : k < n) : rpb n p la l k = true ↔ ∀ o, o < k → top n p la l o ≠ top n p la l k := by
  have bits : ∀ o, (cls0 n p la l k n &&& (2 ^ k - 1)).testBit o = (decide (o < k) && (decide (o < n) && clf n p la l k o)) := fun o => by
    rw [Nat.testBit_and, cls0, Nat.testBit_or, Nat.testBit_two_pow, bset_bit, Nat.testBit_two_pow_sub_one]
    by_cases e : k = o
    · subst e; simp
    · by_cases q : o < k <;> simp [e, q]
  rw [rpb, decide_eq_true_eq]
  constructor
  · intro h0 o ho e
    have hb := bits o
    rw [h0] at hb
    have ht : l ≤ lm n p la k o := (top_iff h hk (by omega) (by omega)).mpr e.symm
    simp [ho, show o < n by omega, clf, ht, show o ≠ k by omega] at hb
  · intro hall
    apply Nat.eq_of_testBit_eq
    intro o
    rw [bits o, Nat.zero_testBit]
    by_cases ho : o < k
    · have : ¬ l ≤ lm n p la k o := fun q => hall o ho ((top_iff h hk (by omega) (by omega)).mp q).symm
      simp [clf, this]
    · simp [ho]
theorem sm_one {f : Nat → Nat} {n i : Nat} (hi : i < n) (h1 : f i = 1) (h0 : ∀ j, j < n → j ≠ i → f j = 0) : sm f n = 1 := by
  have e : sm f n = sm (fun j => if j = i then 1 else 0) n := sm_congr (fun j hj => by
    by_cases q : j = i
    · subst q; rw [if_pos rfl]; exact h1
    · rw [if_neg q]; exact h0 j hj q)
  have h2 := sm_up (fun _ => 0) i 1 n hi
  have h3 : sm (fun _ => 0) n = 0 := sm_zero (fun _ _ => rfl)
  rw [e]
  omega
/-- THE COUNT: one class more than labels below the limit -/
theorem class_count {n : Nat} {p la : Nat → Nat} {l : Nat} (h : tI n p) (hn : 0 < n) : sm (fun k => if rpb n p la l k = true then 1 else 0) n = 1 + lbn n la l := by
  have rows : ∀ k, k < n → (if rpb n p la l k = true then 1 else 0) = sm (fun y => if rpb n p la l k = true ∧ top n p la l k = y then 1 else 0) n := fun k hk => by
    by_cases q : rpb n p la l k = true
    · rw [if_pos q]
      exact (sm_one (f := fun y => if rpb n p la l k = true ∧ top n p la l k = y then 1 else 0) (i := top n p la l k) (top_spec la l h hk).1 (if_pos ⟨q, rfl⟩) (fun j _ hj => if_neg (fun z => hj z.2.symm))).symm
    · rw [if_neg q]
      exact (sm_zero (fun j _ => if_neg (fun z => q z.1))).symm
  have cols : ∀ y, y < n → sm (fun k => if rpb n p la l k = true ∧ top n p la l k = y then 1 else 0) n = (if y = 0 then 1 else 0) + lbf la l y := fun y hy => by
    by_cases hst : stp la l y
    · have hr : (if y = 0 then 1 else 0) + lbf la l y = 1 := by
        unfold lbf
        rcases hst with h0 | hlt
        · simp [h0]
        · by_cases h0 : y = 0
          · simp [h0]
          · simp [h0, hlt, show 0 < y by omega]
      rw [hr]
      have hty : top n p la l y = y := by
        obtain ⟨b1, b2, b3, b4⟩ := top_spec la l h hy
        exact sd_anti h b1 hy b3 (b4 y (sd_self h hy) hst)
      obtain ⟨k, ⟨hkn, hkt⟩, hmin⟩ := pk_least (fun k => k < n ∧ top n p la l k = y) ⟨y, hy, hty⟩
      refine sm_one (i := k) hkn (if_pos ⟨(rpb_iff h hkn).mpr (fun o ho e => hmin o ho ⟨by omega, by rw [e]; exact hkt⟩), hkt⟩) (fun j hj hne => if_neg (fun ⟨z1, z2⟩ => ?_))
      rcases Nat.lt_trichotomy j k with q | q | q
      · exact hmin j q ⟨hj, z2⟩
      · exact hne q
      · exact (rpb_iff h hj).mp z1 k q (by rw [hkt, z2])
    · have hr : (if y = 0 then 1 else 0) + lbf la l y = 0 := by
        unfold lbf
        have h0 : y ≠ 0 := fun e => hst (Or.inl e)
        have h1 : ¬ la y < l := fun e => hst (Or.inr e)
        simp [h0, h1]
      rw [hr]
      exact sm_zero (fun k hk => if_neg (fun ⟨_, z2⟩ => hst (by rw [← z2]; exact (top_spec la l h hk).2.1)))
  rw [sm_congr rows, sm_swap, sm_congr cols, sm_add]
  have e : sm (fun y => if y = 0 then 1 else 0) n = 1 := sm_one (i := 0) hn (if_pos rfl) (fun j _ hj => if_neg hj)
  rw [e]
  rfl

