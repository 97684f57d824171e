/-! FLOWS: what a search has found, what a path carries, why the last vain search gives the near cut. -/
def cnt (n S : Nat) : Nat := sm (fun k => if S.testBit k = true then 1 else 0) n
theorem cnt_le (n S : Nat) : cnt n S ≤ n := by
  have := sm_bound (f := fun k => if S.testBit k = true then 1 else 0) (n := n) (b := 1) (fun i _ => by split <;> omega)
  unfold cnt; omega
theorem bit_or (S v k : Nat) : (S ||| 2 ^ v).testBit k = (S.testBit k || decide (v = k)) := by
  rw [Nat.testBit_or, Nat.testBit_two_pow]
theorem cnt_add {n S v : Nat} (hv : v < n) (h : S.testBit v = false) : cnt n (S ||| 2 ^ v) = cnt n S + 1 := by
  have key : ∀ m, sm (fun k => if (S ||| 2 ^ v).testBit k = true then 1 else 0) m = sm (fun k => if S.testBit k = true then 1 else 0) m + (if v < m then 1 else 0) := by
    intro m
    induction m with
    | zero => simp [sm]
    | succ m ih =>
      rw [sm, sm, ih, bit_or]
      by_cases e : v = m
      · subst e
        simp [h]
      · by_cases h2 : v < m
        · simp [e, h2, show v < m + 1 by omega]; omega
        · simp [e, h2, show ¬ v < m + 1 by omega]
  unfold cnt
  rw [key n, if_pos hv]
theorem cnt_lt {n S v : Nat} (hv : v < n) (h : S.testBit v = false) : cnt n S < n := by
  have h1 := cnt_add hv h
  have h2 := cnt_le n (S ||| 2 ^ v)
  omega
theorem or_lt {n S v : Nat} (hS : S < 2 ^ n) (hv : v < n) : S ||| 2 ^ v < 2 ^ n := Nat.or_lt_two_pow hS (Nat.pow_lt_pow_right (by decide) hv)
theorem lt_of_bit {n S k : Nat} (hS : S < 2 ^ n) (h : S.testBit k = true) : k < n := by
  rcases Nat.lt_or_ge k n with q | q
  · exact q
  · have := Nat.testBit_lt_two_pow (Nat.lt_of_lt_of_le hS (Nat.pow_le_pow_right (by decide) q))
    rw [this] at h; cases h
/-- a chain of k steps from v back to s -/
def pth (n : Nat) (r : Nat → Nat → Nat) (xcf : Nat → Int32) (cf : Nat → Nat) (R s : Nat) : Nat → Nat → Prop
  | 0, v => v = s
  | k + 1, v => v ≠ s ∧ v < n ∧ xcf v = nI (cf v) ∧ cf v < n ∧ R.testBit (cf v) = true ∧ 0 < r (cf v) v ∧ pth n r xcf cf R s k (cf v)
theorem pth_grow {n : Nat} {r : Nat → Nat → Nat} {xcf : Nat → Int32} {cf : Nat → Nat} {R s u v : Nat} (hv : R.testBit v = false) : ∀ (k x : Nat), R.testBit x = true → pth n r xcf cf R s k x → pth n r (upd xcf v (nI u)) (va_up cf v u) (R ||| 2 ^ v) s k x
  | 0, x, _, h => h
  | k + 1, x, hx, h => by
    obtain ⟨h1, h2, h3, h4, h5, h6, h7⟩ := h
    have e : x ≠ v := fun q => by rw [q, hv] at hx; cases hx
    have e1 : va_up cf v u x = cf x := if_neg e
    refine ⟨h1, h2, ?_, ?_, ?_, ?_, ?_⟩
    · rw [pk_un e, e1]; exact h3
    · rw [e1]; exact h4
    · rw [e1, bit_or, h5]; rfl
    · rw [e1]; exact h6
    · rw [e1]; exact pth_grow hv k (cf x) h5 h7
theorem pth_new {n : Nat} {r : Nat → Nat → Nat} {xcf : Nat → Int32} {cf : Nat → Nat} {R s u v k : Nat} (hv : R.testBit v = false) (hvs : v ≠ s) (hvn : v < n) (hu : R.testBit u = true) (hun : u < n) (hr : 0 < r u v) (h : pth n r xcf cf R s k u) : pth n r (upd xcf v (nI u)) (va_up cf v u) (R ||| 2 ^ v) s (k + 1) v := by
  have e1 : va_up cf v u v = u := if_pos rfl
  refine ⟨hvs, hvn, ?_, ?_, ?_, ?_, ?_⟩
  · rw [pk_us, e1]
  · rw [e1]; exact hun
  · rw [e1, bit_or, hu]; rfl
  · rw [e1]; exact hr
  · rw [e1]; exact pth_grow hv k u hu h
theorem pth_uniq {n : Nat} {r : Nat → Nat → Nat} {xcf : Nat → Int32} {cf : Nat → Nat} {R s : Nat} : ∀ (j k v : Nat), pth n r xcf cf R s j v → pth n r xcf cf R s k v → j = k
  | 0, 0, _, _, _ => rfl
  | 0, k + 1, v, h1, h2 => absurd h1 h2.1
  | j + 1, 0, v, h1, h2 => absurd h2 h1.1
  | j + 1, k + 1, v, h1, h2 => by rw [pth_uniq j k (cf v) h1.2.2.2.2.2.2 h2.2.2.2.2.2.2]
/-- the least rest on the way -/
def mn (r : Nat → Nat → Nat) (cf : Nat → Nat) : Nat → Nat → Nat → Nat
  | 0, _, a => a
  | k + 1, v, a => mn r cf k (cf v) (if r (cf v) v < a then r (cf v) v else a)
theorem mn_le {r : Nat → Nat → Nat} {cf : Nat → Nat} : ∀ (k v a : Nat), mn r cf k v a ≤ a
  | 0, _, a => Nat.le_refl _
  | k + 1, v, a => by
    have := mn_le (r := r) (cf := cf) k (cf v) (if r (cf v) v < a then r (cf v) v else a)
    rw [mn]
    split at this <;> (rename_i h; simp only [h, if_true, if_false]; omega)
def ple (r : Nat → Nat → Nat) (cf : Nat → Nat) (d : Nat) : Nat → Nat → Prop
  | 0, _ => True
  | k + 1, v => d ≤ r (cf v) v ∧ ple r cf d k (cf v)
theorem mn_ple {r : Nat → Nat → Nat} {cf : Nat → Nat} : ∀ (k v a : Nat), ple r cf (mn r cf k v a) k v
  | 0, _, _ => trivial
  | k + 1, v, a => by
    refine ⟨?_, mn_ple k (cf v) _⟩
    have := mn_le (r := r) (cf := cf) k (cf v) (if r (cf v) v < a then r (cf v) v else a)
    rw [mn]
    split at this <;> (rename_i h; simp only [h, if_true, if_false]; omega)
theorem mn_pos {n : Nat} {r : Nat → Nat → Nat} {xcf : Nat → Int32} {cf : Nat → Nat} {R s : Nat} : ∀ (k v a : Nat), 0 < a → pth n r xcf cf R s k v → 0 < mn r cf k v a
  | 0, _, a, ha, _ => ha
  | k + 1, v, a, ha, h => by
    rw [mn]
    refine mn_pos k (cf v) _ ?_ h.2.2.2.2.2.2
    split
    · exact h.2.2.2.2.2.1
    · exact ha
/-- one entry of a square changed -/
def up2 (r : Nat → Nat → Nat) (a b x : Nat) : Nat → Nat → Nat := fun i j => if i = a ∧ j = b then x else r i j
theorem sm_up (f : Nat → Nat) (a x n : Nat) (ha : a < n) : sm (fun i => if i = a then x else f i) n + f a = sm f n + x := by
  induction n with
  | zero => omega
  | succ n ih =>
    rw [sm, sm]
    by_cases e : a = n
    · subst e
      rw [sm_congr (g := f) (fun i hi => if_neg (by omega)), if_pos rfl]
      omega
    · have := ih (by omega)
      rw [if_neg (fun q => e q.symm)]
      omega
theorem wt_up2 {n a b x S : Nat} {r : Nat → Nat → Nat} (ha : a < n) (hb : b < n) : wt n (up2 r a b x) S + wa r S a b = wt n r S + (if (S.testBit a && !S.testBit b) = true then x else 0) := by
  have e1 : ∀ u, u ≠ a → sm (fun v => wa (up2 r a b x) S u v) n = sm (fun v => wa r S u v) n := fun u hu => sm_congr (fun v _ => by simp [wa, up2, hu])
  have e2 : sm (fun v => wa (up2 r a b x) S a v) n + wa r S a b = sm (fun v => wa r S a v) n + (if (S.testBit a && !S.testBit b) = true then x else 0) := by
    rw [← sm_up (fun v => wa r S a v) b _ n hb]
    congr 1
    refine sm_congr (fun v _ => ?_)
    by_cases e : v = b
    · subst e; simp [wa, up2]
    · simp [wa, up2, e]
  have e3 := sm_up (fun u => sm (fun v => wa r S u v) n) a (sm (fun v => wa (up2 r a b x) S a v) n) n ha
  have e4 : sm (fun u => sm (fun v => wa (up2 r a b x) S u v) n) n = sm (fun i => if i = a then sm (fun v => wa (up2 r a b x) S a v) n else sm (fun v => wa r S i v) n) n := by
    refine sm_congr (fun u _ => ?_)
    by_cases e : u = a
    · subst e; rw [if_pos rfl]
    · rw [if_neg e, e1 u e]
  unfold wt
  rw [e4]
  omega
/-- an amount d sent from u to v -/
def snd2 (r : Nat → Nat → Nat) (u v d : Nat) : Nat → Nat → Nat := up2 (up2 r u v (r u v - d)) v u (r v u + d)
theorem snd2_wt {n u v d S : Nat} {r : Nat → Nat → Nat} (hu : u < n) (hv : v < n) (huv : u ≠ v) (hd : d ≤ r u v) : wt n (snd2 r u v d) S + (if S.testBit u = true then d else 0) = wt n r S + (if S.testBit v = true then d else 0) := by
  have h1 := wt_up2 (x := r u v - d) (S := S) (r := r) hu hv
  have h2 := wt_up2 (x := r v u + d) (S := S) (r := up2 r u v (r u v - d)) hv hu
  have e : wa (up2 r u v (r u v - d)) S v u = wa r S v u := by
    have : up2 r u v (r u v - d) v u = r v u := if_neg (fun q => huv q.2)
    simp [wa, this]
  rw [e] at h2
  unfold snd2
  cases ha : S.testBit u <;> cases hb : S.testBit v <;> simp [wa, ha, hb] at h1 h2 ⊢ <;> omega
theorem snd2_pair {u v d : Nat} {r : Nat → Nat → Nat} (huv : u ≠ v) (hd : d ≤ r u v) (i j : Nat) : snd2 r u v d i j + snd2 r u v d j i = r i j + r j i := by
  unfold snd2 up2
  by_cases h1 : i = u
  · by_cases h2 : j = v
    · subst h1; subst h2
      simp [huv, Ne.symm huv]; omega
    · by_cases h3 : j = u
      · subst h1; subst h3; simp [huv]
      · subst h1; simp [huv, h2, h3]
  · by_cases h2 : i = v
    · by_cases h3 : j = u
      · subst h2; subst h3
        simp [huv, Ne.symm huv]; omega
      · subst h2; simp [h1, h3]
    · simp [h1, h2]
theorem snd2_ge {u v d a b : Nat} {r : Nat → Nat → Nat} (h : ¬ (a = u ∧ b = v)) : r a b ≤ snd2 r u v d a b := by
  unfold snd2 up2
  by_cases e : a = v ∧ b = u
  · rw [if_pos e, e.1, e.2]; omega
  · rw [if_neg e, if_neg h]; omega
/-- THE NEAR CUT of s from t: X, of weight wt n K X -/
def isNear (n : Nat) (K : Nat → Nat → Nat) (s t X : Nat) : Prop := X < 2 ^ n ∧ X.testBit s = true ∧ X.testBit t = false ∧ ∀ Y, Y < 2 ^ n → Y.testBit s = true → Y.testBit t = false → wt n K X ≤ wt n K Y ∧ (wt n K Y = wt n K X → ∀ k, X.testBit k = true → Y.testBit k = true)
theorem isNear_uniq {n : Nat} {K : Nat → Nat → Nat} {s t X Y : Nat} (h1 : isNear n K s t X) (h2 : isNear n K s t Y) : X = Y := by
  have a := h1.2.2.2 Y h2.1 h2.2.1 h2.2.2.1
  have b := h2.2.2.2 X h1.1 h1.2.1 h1.2.2.1
  have e : wt n K X = wt n K Y := by omega
  apply Nat.eq_of_testBit_eq
  intro k
  have c := a.2 e.symm k
  have d := b.2 e k
  cases hx : X.testBit k <;> cases hy : Y.testBit k
  · rfl
  · rw [hx, hy] at d; exact absurd (d rfl) (by decide)
  · rw [hx, hy] at c; exact absurd (c rfl) (by decide)
  · rfl
theorem sm_eq0 {f : Nat → Nat} {n : Nat} (h : sm f n = 0) : ∀ i, i < n → f i = 0 := by
  induction n with
  | zero => intro i hi; omega
  | succ n ih =>
    rw [sm] at h
    intro i hi
    by_cases e : i = n
    · subst e; omega
    · exact ih (by omega) i (by omega)
theorem wt_zero {n : Nat} {r : Nat → Nat → Nat} {S : Nat} (h : ∀ u v, u < n → v < n → S.testBit u = true → S.testBit v = false → r u v = 0) : wt n r S = 0 :=
  sm_zero (fun u hu => sm_zero (fun v hv => by
    unfold wa; split
    · rename_i q
      simp only [Bool.and_eq_true, Bool.not_eq_true'] at q
      exact h u v hu hv q.1 q.2
    · rfl))
theorem wt_zero' {n : Nat} {r : Nat → Nat → Nat} {S : Nat} (h : wt n r S = 0) : ∀ u v, u < n → v < n → S.testBit u = true → S.testBit v = false → r u v = 0 := by
  intro u v hu hv h1 h2
  have := sm_eq0 (sm_eq0 h u hu) v hv
  simpa [wa, h1, h2] using this
/-- the last vain search gives the near cut -/
theorem flow_near {n s t R F : Nat} {K r : Nat → Nat → Nat} (hR : R < 2 ^ n) (hs : R.testBit s = true) (ht : R.testBit t = false) (hcl : ∀ u v, u < n → v < n → R.testBit u = true → 0 < r u v → R.testBit v = true) (hmin : ∀ X : Nat, X.testBit s = true → (∀ u v, u < n → v < n → X.testBit u = true → 0 < r u v → X.testBit v = true) → ∀ v, R.testBit v = true → X.testBit v = true) (hJ : ∀ X : Nat, X.testBit s = true → X.testBit t = false → wt n r X + F = wt n K X) : isNear n K s t R := by
  have h0 : wt n r R = 0 := wt_zero (fun u v hu hv h1 h2 => by
    rcases Nat.eq_zero_or_pos (r u v) with q | q
    · exact q
    · rw [hcl u v hu hv h1 q] at h2; cases h2)
  have hF := hJ R hs ht
  refine ⟨hR, hs, ht, fun Y hY h1 h2 => ?_⟩
  have hY2 := hJ Y h1 h2
  refine ⟨by omega, fun e => hmin Y h1 (fun u v hu hv h3 h4 => ?_)⟩
  have h5 : wt n r Y = 0 := by omega
  cases h6 : Y.testBit v with
  | true => rfl
  | false => have := wt_zero' h5 u v hu hv h3 h6; omega

