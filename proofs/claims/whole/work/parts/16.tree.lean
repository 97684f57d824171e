/-! TREES: near cuts exist; a step of the building; every node leads to 0; sides. -/
theorem wa_sub (K : Nat → Nat → Nat) (A B u v : Nat) : wa K (A &&& B) u v + wa K (A ||| B) u v ≤ wa K A u v + wa K B u v := by
  unfold wa
  rw [Nat.testBit_and, Nat.testBit_and, Nat.testBit_or, Nat.testBit_or]
  cases A.testBit u <;> cases A.testBit v <;> cases B.testBit u <;> cases B.testBit v <;> simp
theorem wt_sub (n : Nat) (K : Nat → Nat → Nat) (A B : Nat) : wt n K (A &&& B) + wt n K (A ||| B) ≤ wt n K A + wt n K B := by
  unfold wt
  rw [← sm_add, ← sm_add]
  refine sm_le (fun u _ => ?_)
  rw [← sm_add, ← sm_add]
  exact sm_le (fun v _ => wa_sub K A B u v)
def isSep (n s t Y : Nat) : Prop := Y < 2 ^ n ∧ Y.testBit s = true ∧ Y.testBit t = false
theorem near_ex {n : Nat} (K : Nat → Nat → Nat) {s t : Nat} (hs : s < n) (hst : s ≠ t) : ∃ X, isNear n K s t X := by
  have h0 : isSep n s t (2 ^ s) := ⟨Nat.pow_lt_pow_right (by decide) hs, by rw [Nat.testBit_two_pow]; simp, by rw [Nat.testBit_two_pow]; simpa using hst⟩
  obtain ⟨f, ⟨Y0, hY0, hf⟩, hmin⟩ := pk_least (fun f => ∃ Y, isSep n s t Y ∧ wt n K Y = f) ⟨_, 2 ^ s, h0, rfl⟩
  have hle : ∀ Y, isSep n s t Y → f ≤ wt n K Y := fun Y hY => by
    rcases Nat.lt_or_ge (wt n K Y) f with q | q
    · exact absurd ⟨Y, hY, rfl⟩ (hmin _ q)
    · exact q
  obtain ⟨X, ⟨hX, hXf⟩, hXm⟩ := pk_least (fun X => isSep n s t X ∧ wt n K X = f) ⟨Y0, hY0, hf⟩
  refine ⟨X, hX.1, hX.2.1, hX.2.2, fun Y h1 h2 h3 => ?_⟩
  have hY : isSep n s t Y := ⟨h1, h2, h3⟩
  refine ⟨by rw [hXf]; exact hle Y hY, fun e => ?_⟩
  have hand : isSep n s t (X &&& Y) := ⟨Nat.lt_of_le_of_lt Nat.and_le_left hX.1, by rw [Nat.testBit_and, hX.2.1, h2]; rfl, by rw [Nat.testBit_and, hX.2.2]; rfl⟩
  have hor : isSep n s t (X ||| Y) := ⟨Nat.or_lt_two_pow hX.1 h1, by rw [Nat.testBit_or, hX.2.1]; rfl, by rw [Nat.testBit_or, hX.2.2, h3]; rfl⟩
  have a1 := hle _ hand
  have a2 := hle _ hor
  have a3 := wt_sub n K X Y
  have a4 : wt n K (X &&& Y) = f := by omega
  have a5 : X ≤ X &&& Y := by
    rcases Nat.lt_or_ge (X &&& Y) X with q | q
    · exact absurd ⟨hand, a4⟩ (hXm _ q)
    · exact q
  have a6 : X &&& Y = X := Nat.le_antisymm Nat.and_le_left a5
  intro k hk
  rw [← a6, Nat.testBit_and] at hk
  simp only [Bool.and_eq_true] at hk
  exact hk.2
/-- the near cut -/
noncomputable def nr (n : Nat) (K : Nat → Nat → Nat) (s t : Nat) : Nat := Classical.epsilon (fun X => isNear n K s t X)
theorem nr_spec {n : Nat} (K : Nat → Nat → Nat) {s t : Nat} (hs : s < n) (hst : s ≠ t) : isNear n K s t (nr n K s t) := by
  exact Classical.epsilon_spec (near_ex K hs hst)
theorem nr_eq {n : Nat} {K : Nat → Nat → Nat} {s t X : Nat} (hs : s < n) (hst : s ≠ t) (h : isNear n K s t X) : X = nr n K s t := isNear_uniq h (nr_spec K hs hst)
/-- the nodes that get the parent s -/
def tp1 (X s t : Nat) (p : Nat → Nat) : Nat → Nat := fun k => if k ≠ s ∧ k ≠ 0 ∧ X.testBit k = true ∧ p k = t then s else p k
def tsw (X t : Nat) (p : Nat → Nat) : Prop := t ≠ 0 ∧ X.testBit (p t) = true
/-- a step of the building, by the near cut X of s from t and its weight w -/
def tst (X w s t : Nat) (q : (Nat → Nat) × (Nat → Nat)) : (Nat → Nat) × (Nat → Nat) :=
  if t ≠ 0 ∧ X.testBit (tp1 X s t q.1 t) = true then (va_up (va_up (tp1 X s t q.1) s (tp1 X s t q.1 t)) t s, va_up (va_up q.2 s (q.2 t)) t w) else (tp1 X s t q.1, va_up q.2 s w)
noncomputable def trs (n : Nat) (K : Nat → Nat → Nat) : Nat → (Nat → Nat) × (Nat → Nat)
  | 0 => (fun _ => 0, fun _ => 0)
  | m + 1 => tst (nr n K (m + 1) ((trs n K m).1 (m + 1))) (wt n K (nr n K (m + 1) ((trs n K m).1 (m + 1)))) (m + 1) ((trs n K m).1 (m + 1)) (trs n K m)
def it (p : Nat → Nat) : Nat → Nat → Nat
  | 0, k => k
  | d + 1, k => it p d (p k)
theorem it_succ (p : Nat → Nat) : ∀ (d k : Nat), it p (d + 1) k = p (it p d k)
  | 0, _ => rfl
  | d + 1, k => it_succ p d (p k)
theorem it_add (p : Nat → Nat) : ∀ (d e k : Nat), it p (d + e) k = it p d (it p e k)
  | d, 0, k => rfl
  | d, e + 1, k => by rw [← Nat.add_assoc]; exact it_add p d e (p k)
/-- a tree with the root 0 -/
def tI (n : Nat) (p : Nat → Nat) : Prop := p 0 = 0 ∧ (∀ k, k < n → p k < n) ∧ ∀ k, k < n → ∃ d, it p d k = 0
theorem it_zero {p : Nat → Nat} (h : p 0 = 0) : ∀ d, it p d 0 = 0
  | 0 => rfl
  | d + 1 => by show it p d (p 0) = 0; rw [h]; exact it_zero h d
theorem it_lt {n : Nat} {p : Nat → Nat} (h : tI n p) : ∀ (d k : Nat), k < n → it p d k < n
  | 0, _, hk => hk
  | d + 1, k, hk => it_lt h d (p k) (h.2.1 k hk)
theorem tI_ne {n : Nat} {p : Nat → Nat} (h : tI n p) {k : Nat} (hk : k < n) (h0 : k ≠ 0) : p k ≠ k := by
  intro e
  obtain ⟨d, hd⟩ := h.2.2 k hk
  have : ∀ d, it p d k = k := by
    intro d
    induction d with
    | zero => rfl
    | succ d ih => show it p d (p k) = k; rw [e]; exact ih
  rw [this d] at hd
  exact h0 hd
theorem tI_up {n : Nat} {p : Nat → Nat} {k : Nat} (h : ∃ d, it p d (p k) = 0) : ∃ d, it p d k = 0 := by
  obtain ⟨d, hd⟩ := h
  exact ⟨d + 1, hd⟩
/-- a step keeps the tree a tree -/
theorem tI_tst {n : Nat} {X w s : Nat} {q : (Nat → Nat) × (Nat → Nat)} (h : tI n q.1) (hs : s < n) (hs0 : s ≠ 0) : tI n (tst X w s (q.1 s) q).1 := by
  obtain ⟨h0, hlt, hr⟩ := h
  obtain ⟨p, la⟩ := q
  dsimp only at h0 hlt hr
  have htn := hlt s hs
  have hts : p s ≠ s := tI_ne ⟨h0, hlt, hr⟩ hs hs0
  have p1s : tp1 X s (p s) p s = p s := by simp [tp1]
  have p10 : tp1 X s (p s) p 0 = 0 := by simp [tp1, h0]
  have p1t : p s ≠ 0 → tp1 X s (p s) p (p s) = p (p s) := fun ht0 => by
    have := tI_ne ⟨h0, hlt, hr⟩ htn ht0
    simp [tp1, this]
  have p1lt : ∀ k, k < n → tp1 X s (p s) p k < n := fun k hk => by
    unfold tp1; split
    · exact hs
    · exact hlt k hk
  unfold tst
  dsimp only
  split
  · rename_i hsw
    have ht0 := hsw.1
    rw [p1t ht0]
    have ept : va_up (va_up (tp1 X s (p s) p) s (p (p s))) (p s) s (p s) = s := if_pos rfl
    have eps : va_up (va_up (tp1 X s (p s) p) s (p (p s))) (p s) s s = p (p s) := by simp [va_up, Ne.symm hts]
    have epk : ∀ k, k ≠ s → k ≠ p s → va_up (va_up (tp1 X s (p s) p) s (p (p s))) (p s) s k = tp1 X s (p s) p k := fun k a b => by simp [va_up, a, b]
    generalize hp' : va_up (va_up (tp1 X s (p s) p) s (p (p s))) (p s) s = p' at ept eps epk ⊢
    show tI n p'
    refine ⟨by rw [epk 0 (Ne.symm hs0) (Ne.symm ht0)]; exact p10, fun k hk => ?_, ?_⟩
    · by_cases e1 : k = s
      · subst e1; rw [eps]; exact hlt _ htn
      · by_cases e2 : k = p s
        · subst e2; rw [ept]; exact hs
        · rw [epk k e1 e2]; exact p1lt k hk
    · have key : ∀ d, ∀ e, e ≤ d → ∀ k, k < n → it p e k = 0 → ∃ d', it p' d' k = 0 := by
        intro d
        induction d with
        | zero =>
          intro e he k hk h
          obtain rfl : e = 0 := by omega
          exact ⟨0, h⟩
        | succ d ih =>
          intro e he k hk h
          by_cases k0 : k = 0
          · exact ⟨0, k0⟩
          cases e with
          | zero => exact ⟨0, h⟩
          | succ e =>
            have h' : it p e (p k) = 0 := h
            have viaT : ∀ e', e' ≤ d → it p e' (p s) = 0 → ∃ d', it p' d' s = 0 := by
              intro e' he' h2
              cases e' with
              | zero => exact absurd h2 ht0
              | succ e' =>
                refine tI_up (n := n) ?_
                rw [eps]
                exact ih e' (by omega) _ (hlt _ htn) h2
            by_cases e1 : k = s
            · subst e1; exact viaT e (by omega) h'
            · by_cases e2 : k = p s
              · subst e2
                refine tI_up (n := n) ?_
                rw [ept]
                refine tI_up (n := n) ?_
                rw [eps]
                exact ih e (by omega) _ (hlt _ htn) h'
              · by_cases e3 : k ≠ s ∧ k ≠ 0 ∧ X.testBit k = true ∧ p k = p s
                · refine tI_up (n := n) ?_
                  rw [epk k e1 e2, show tp1 X s (p s) p k = s from if_pos e3]
                  rw [e3.2.2.2] at h'
                  exact viaT e (by omega) h'
                · refine tI_up (n := n) ?_
                  rw [epk k e1 e2, show tp1 X s (p s) p k = p k from if_neg e3]
                  exact ih e (by omega) _ (hlt k hk) h'
      intro k hk
      obtain ⟨d, hd⟩ := hr k hk
      exact key d d (Nat.le_refl _) k hk hd
  · dsimp only
    generalize hp' : tp1 X s (p s) p = p' at p1s p10 p1lt ⊢
    refine ⟨p10, p1lt, ?_⟩
    have key : ∀ d, ∀ e, e ≤ d → ∀ k, k < n → it p e k = 0 → ∃ d', it p' d' k = 0 := by
      intro d
      induction d with
      | zero =>
        intro e he k hk h
        obtain rfl : e = 0 := by omega
        exact ⟨0, h⟩
      | succ d ih =>
        intro e he k hk h
        by_cases k0 : k = 0
        · exact ⟨0, k0⟩
        cases e with
        | zero => exact ⟨0, h⟩
        | succ e =>
          have h' : it p e (p k) = 0 := h
          by_cases e3 : k ≠ s ∧ k ≠ 0 ∧ X.testBit k = true ∧ p k = p s
          · refine tI_up (n := n) ?_
            rw [← hp', show tp1 X s (p s) p k = s from if_pos e3, hp']
            refine tI_up (n := n) ?_
            rw [p1s]
            rw [e3.2.2.2] at h'
            exact ih e (by omega) _ htn h'
          · refine tI_up (n := n) ?_
            rw [← hp', show tp1 X s (p s) p k = p k from if_neg e3, hp']
            exact ih e (by omega) _ (hlt k hk) h'
    intro k hk
    obtain ⟨d, hd⟩ := hr k hk
    exact key d d (Nat.le_refl _) k hk hd
theorem tI_trs {n : Nat} (K : Nat → Nat → Nat) (hn : 0 < n) : ∀ m, m < n → tI n (trs n K m).1
  | 0, _ => ⟨rfl, fun _ _ => hn, fun k _ => ⟨1, rfl⟩⟩
  | m + 1, h => tI_tst (tI_trs K hn m (by omega)) h (by omega)
theorem la_tst {X w s t : Nat} {q : (Nat → Nat) × (Nat → Nat)} {b : Nat} (h : ∀ k, q.2 k ≤ b) (hw : w ≤ b) (k : Nat) : (tst X w s t q).2 k ≤ b := by
  unfold tst
  split
  · show va_up (va_up q.2 s (q.2 t)) t w k ≤ b
    unfold va_up
    split
    · exact hw
    · split
      · exact h t
      · exact h k
  · show va_up q.2 s w k ≤ b
    unfold va_up
    split
    · exact hw
    · exact h k
theorem la_trs {n : Nat} {K : Nat → Nat → Nat} (hK : ∀ i j, K i j ≤ 999) (hn : n ≤ 12) : ∀ m k, (trs n K m).2 k ≤ 143856
  | 0, _ => Nat.zero_le _
  | m + 1, k => la_tst (la_trs hK hn m) (wt_bound hK hn _) k
/-- the tree of a graph: parents, labels -/
noncomputable def tp (n : Nat) (K : Nat → Nat → Nat) : Nat → Nat := (trs n K (n - 1)).1
noncomputable def tl (n : Nat) (K : Nat → Nat → Nat) : Nat → Nat := (trs n K (n - 1)).2
theorem tp_tI {n : Nat} (K : Nat → Nat → Nat) (hn : 0 < n) : tI n (tp n K) := tI_trs K hn (n - 1) (by omega)
theorem tl_le {n : Nat} {K : Nat → Nat → Nat} (hK : ∀ i j, K i j ≤ 999) (hn : n ≤ 12) (k : Nat) : tl n K k ≤ 143856 := la_trs hK hn _ k
/-- every node is less than n steps from 0 -/
theorem tI_depth {n : Nat} {p : Nat → Nat} (h : tI n p) {k : Nat} (hk : k < n) : ∃ d, d < n ∧ it p d k = 0 := by
  obtain ⟨d, hd, hmin⟩ := pk_least (fun d => it p d k = 0) (h.2.2 k hk)
  refine ⟨d, ?_, hd⟩
  have inj : ∀ i j, i < j → j ≤ d → it p i k ≠ it p j k := by
    intro i j hij hj e
    have h1 : it p (d - j + j) k = it p (d - j) (it p j k) := it_add p _ _ _
    have h2 : it p (d - j + i) k = it p (d - j) (it p i k) := it_add p _ _ _
    rw [← e, ← h2, show d - j + j = d by omega, hd] at h1
    exact hmin (d - j + i) (by omega) h1.symm
  have key : ∀ m, m ≤ d + 1 → ∃ S, cnt n S = m ∧ ∀ x, S.testBit x = true → ∃ i, i < m ∧ it p i k = x := by
    intro m
    induction m with
    | zero => exact fun _ => ⟨0, sm_zero (fun i _ => by simp), fun x hx => by simp at hx⟩
    | succ m ih =>
      intro hm
      obtain ⟨S, h1, h2⟩ := ih (by omega)
      have hb : S.testBit (it p m k) = false := by
        cases hb : S.testBit (it p m k) with
        | false => rfl
        | true =>
          obtain ⟨i, hi, he⟩ := h2 _ hb
          exact absurd he (inj i m hi (by omega))
      refine ⟨S ||| 2 ^ it p m k, by rw [cnt_add (it_lt h m k hk) hb, h1], fun x hx => ?_⟩
      rw [bit_or] at hx
      cases hx2 : S.testBit x with
      | true =>
        obtain ⟨i, hi, he⟩ := h2 x hx2
        exact ⟨i, by omega, he⟩
      | false =>
        rw [hx2] at hx
        exact ⟨m, by omega, by simpa using hx⟩
  obtain ⟨S, h1, -⟩ := key (d + 1) (Nat.le_refl _)
  have := cnt_le n S
  omega
/-- a set by its nodes -/
def bset (f : Nat → Bool) : Nat → Nat
  | 0 => 0
  | m + 1 => bset f m ||| (if f m = true then 2 ^ m else 0)
theorem bset_bit (f : Nat → Bool) : ∀ m k, (bset f m).testBit k = (decide (k < m) && f k)
  | 0, k => by simp [bset]
  | m + 1, k => by
    rw [bset, Nat.testBit_or, bset_bit f m k]
    by_cases e : k = m
    · subst e
      cases h : f k <;> simp
    · cases h : f m
      · by_cases h2 : k < m
        · simp [h2, show k < m + 1 by omega]
        · simp [h2, show ¬ k < m + 1 by omega]
      · rw [if_pos rfl, Nat.testBit_two_pow]
        by_cases h2 : k < m
        · simp [h2, Ne.symm e, show k < m + 1 by omega]
        · simp [h2, Ne.symm e, show ¬ k < m + 1 by omega]
theorem bset_lt (f : Nat → Bool) (m : Nat) : bset f m < 2 ^ m := by
  apply Nat.lt_pow_two_of_testBit
  intro i hi
  rw [bset_bit]
  simp [show ¬ i < m by omega]
/-- does the way up from x come by k, within d steps -/
def anb (p : Nat → Nat) (k : Nat) : Nat → Nat → Bool
  | 0, _ => false
  | d + 1, x => anb p k d x || decide (it p d x = k)
theorem anb_iff {p : Nat → Nat} {k x : Nat} : ∀ d, anb p k d x = true ↔ ∃ j, j < d ∧ it p j x = k
  | 0 => by simp [anb]
  | d + 1 => by
    rw [anb, Bool.or_eq_true, anb_iff d, decide_eq_true_eq]
    constructor
    · rintro (⟨j, h1, h2⟩ | h)
      · exact ⟨j, by omega, h2⟩
      · exact ⟨d, by omega, h⟩
    · rintro ⟨j, h1, h2⟩
      by_cases e : j = d
      · subst e; exact Or.inr h2
      · exact Or.inl ⟨j, by omega, h2⟩
/-- the side of k: k and all below it -/
def sd (n : Nat) (p : Nat → Nat) (k : Nat) : Nat := bset (fun x => anb p k n x) n
theorem sd_lt (n : Nat) (p : Nat → Nat) (k : Nat) : sd n p k < 2 ^ n := bset_lt _ _
theorem sd_iff {n : Nat} {p : Nat → Nat} (h : tI n p) {k x : Nat} (hx : x < n) : (sd n p k).testBit x = true ↔ ∃ d, it p d x = k := by
  rw [sd, bset_bit, Bool.and_eq_true, decide_eq_true_eq, anb_iff]
  constructor
  · rintro ⟨-, j, -, hj⟩
    exact ⟨j, hj⟩
  · rintro ⟨d, hd⟩
    refine ⟨hx, ?_⟩
    obtain ⟨e, he, h0⟩ := tI_depth h hx
    rcases Nat.lt_or_ge d n with q | q
    · exact ⟨d, q, hd⟩
    · have : it p d x = 0 := by
        rw [show d = (d - e) + e by omega, it_add, h0]
        exact it_zero h.1 _
      rw [this] at hd
      subst hd
      exact ⟨e, he, h0⟩
theorem sd_lt' {n : Nat} {p : Nat → Nat} {k x : Nat} (h : (sd n p k).testBit x = true) : x < n := lt_of_bit (sd_lt n p k) h
theorem sd_self {n : Nat} {p : Nat → Nat} (h : tI n p) {k : Nat} (hk : k < n) : (sd n p k).testBit k = true := (sd_iff h hk).mpr ⟨0, rfl⟩
theorem sd_0 {n : Nat} {p : Nat → Nat} (h : tI n p) : sd n p 0 = 2 ^ n - 1 := by
  apply Nat.eq_of_testBit_eq
  intro i
  rw [Nat.testBit_two_pow_sub_one]
  by_cases hi : i < n
  · rw [(sd_iff h hi).mpr (h.2.2 i hi)]; simp [hi]
  · rw [sd, bset_bit]; simp [hi]

