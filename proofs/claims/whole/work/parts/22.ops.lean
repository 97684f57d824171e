/-! WHAT EACH CALL DOES, in one abstract state: nodes, capacities, changes (latest first), flows, the capacities of the stored tree. -/
abbrev AS : Type := Nat × (Nat → Nat → Nat) × List (Nat × Nat × Nat) × Int32 × Option (Nat → Nat → Nat)
def pe (n : Nat) (a b : Int32) : Int32 := if okN n a = true ∧ okN n b = true then (if a = b then -2 else 0) else -1
theorem pe_spec {n : Nat} (hn : n ≤ 12) (a b : Int32) : (pe n a b ≠ 0) ∨ (pe n a b = 0 ∧ ∃ u v, u < n ∧ v < n ∧ u ≠ v ∧ a = nI u ∧ b = nI v) := by
  unfold pe
  by_cases h : okN n a = true ∧ okN n b = true
  · rw [if_pos h]
    by_cases e : a = b
    · rw [if_pos e]; exact Or.inl (by decide)
    · rw [if_neg e]
      obtain ⟨u, hu, rfl⟩ := okN_of (by omega) h.1
      obtain ⟨v, hv, rfl⟩ := okN_of (by omega) h.2
      exact Or.inr ⟨rfl, u, v, hu, hv, fun q => e (by rw [q]), rfl, rfl⟩
  · rw [if_neg h]; exact Or.inl (by decide)
theorem pe_ok {n u v : Nat} (hn : n ≤ 12) (hu : u < n) (hv : v < n) (huv : u ≠ v) : pe n (nI u) (nI v) = 0 := by
  unfold pe
  rw [if_pos ⟨okN_nI (by omega) hu, okN_nI (by omega) hv⟩, if_neg (fun q => huv ((nI_eq (by omega) (by omega)).mp q))]
def put (K : Nat → Nat → Nat) (i j w : Nat) : Nat → Nat → Nat := fun x y => if (x = i ∧ y = j) ∨ (x = j ∧ y = i) then w else K x y
theorem gK_put {n i j w : Nat} {K : Nat → Nat → Nat} (h : gK n K) (hi : i < n) (hj : j < n) (hij : i ≠ j) (hw : w ≤ 999) : gK n (put K i j w) := by
  obtain ⟨h1, h2, h3, h4⟩ := h
  refine ⟨fun x y => ?_, fun x y => ?_, fun x => ?_, fun x y hx => ?_⟩
  · unfold put; split
    · exact hw
    · exact h1 x y
  · unfold put
    by_cases c : (x = i ∧ y = j) ∨ (x = j ∧ y = i)
    · rw [if_pos c, if_pos (by omega)]
    · rw [if_neg c, if_neg (by omega)]; exact h2 x y
  · unfold put; rw [if_neg (by omega)]; exact h3 x
  · unfold put; rw [if_neg (by omega)]; exact h4 x y hx
theorem gK_0 (n : Nat) : gK n (fun _ _ => 0) := ⟨fun _ _ => Nat.zero_le _, fun _ _ => rfl, fun _ => rfl, fun _ _ _ => rfl⟩
def rb (a : AS) : AS := (a.1, a.2.1, a.2.2.1, a.2.2.2.1 + nI (a.1 - 1), some a.2.1)
def rF (a a' : AS) : Prop := (a.2.2.2.2 = some a.2.1 ∧ a' = a) ∨ (a.2.2.2.2 ≠ some a.2.1 ∧ a' = rb a)
def okP (n : Nat) (s t : Int32) (i j : Nat) : Prop := i < n ∧ j < n ∧ i ≠ j ∧ s = nI i ∧ t = nI j
def rReset (k : Int32) (a : AS) (r : Int32) (a' : AS) : Prop := (∃ j, 2 ≤ j ∧ j ≤ 12 ∧ k = nI j ∧ r = nI a.1 ∧ a' = (j, fun _ _ => 0, [], 0, none)) ∨ (¬ (2 ≤ k ∧ k ≤ 12) ∧ r = -3 ∧ a' = a)
def rSet (u v c : Int32) (a : AS) (r : Int32) (a' : AS) : Prop := (pe a.1 u v ≠ 0 ∧ r = pe a.1 u v ∧ a' = a) ∨ (pe a.1 u v = 0 ∧ ¬ (0 ≤ c ∧ c ≤ 999) ∧ r = -3 ∧ a' = a) ∨ (∃ i j w, okP a.1 u v i j ∧ w ≤ 999 ∧ c = nI w ∧ r = nI (a.2.1 i j) ∧ a' = (a.1, put a.2.1 i j w, ((i, j, a.2.1 i j) :: a.2.2.1).take 40, a.2.2.2))
def rUndo (a : AS) (r : Int32) (a' : AS) : Prop := (a.2.2.1 = [] ∧ r = -5 ∧ a' = a) ∨ (∃ i j w L, a.2.2.1 = (i, j, w) :: L ∧ r = nI L.length ∧ a' = (a.1, put a.2.1 i j w, L, a.2.2.2))
def rCap (u v : Int32) (a : AS) (r : Int32) (a' : AS) : Prop := a' = a ∧ ((pe a.1 u v ≠ 0 ∧ r = pe a.1 u v) ∨ (∃ i j, okP a.1 u v i j ∧ r = nI (a.2.1 i j)))
def rCount (w : Int32) (a : AS) (r : Int32) (a' : AS) : Prop := a' = a ∧ ((w = 0 ∧ r = nI a.1) ∨ (w = 1 ∧ r = nI (edg a.1 a.2.1)) ∨ (w = 2 ∧ r = nI a.2.2.1.length) ∨ (w = 3 ∧ r = a.2.2.2.1) ∨ ((w.toInt < 0 ∨ 3 < w.toInt) ∧ r = -3))
def rCutW (x : Int32) (a : AS) (r : Int32) (a' : AS) : Prop := a' = a ∧ ((okC a.1 x = false ∧ r = -3) ∨ (∃ S, 0 < S ∧ S < 2 ^ a.1 - 1 ∧ x = nI S ∧ r = nI (wt a.1 a.2.1 S)))
def rBuild (a : AS) (r : Int32) (a' : AS) : Prop := rF a a' ∧ r = a'.2.2.2.1 - a.2.2.2.1
def rFresh (a : AS) (r : Int32) (a' : AS) : Prop := a' = a ∧ ((a.2.2.2.2 = some a.2.1 ∧ r = 1) ∨ (a.2.2.2.2 ≠ some a.2.1 ∧ r = 0))
def rNode (val : Nat → (Nat → Nat → Nat) → Nat → Int32) (k : Int32) (a : AS) (r : Int32) (a' : AS) : Prop := a' = a ∧ ((okN a.1 k = false ∧ r = -1) ∨ (okN a.1 k = true ∧ a.2.2.2.2 = none ∧ r = -4) ∨ (∃ B i, a.2.2.2.2 = some B ∧ i < a.1 ∧ k = nI i ∧ r = val a.1 B i))
noncomputable def vPa (n : Nat) (B : Nat → Nat → Nat) (i : Nat) : Int32 := if i = 0 then -5 else nI (tp n B i)
noncomputable def vLa (n : Nat) (B : Nat → Nat → Nat) (i : Nat) : Int32 := if i = 0 then -5 else nI (tl n B i)
noncomputable def vSi (n : Nat) (B : Nat → Nat → Nat) (i : Nat) : Int32 := nI (sd n (tp n B) i)
def rLoss (a : AS) (r : Int32) (a' : AS) : Prop := a' = a ∧ ((a.2.2.2.2 = none ∧ r = -4) ∨ (∃ B, a.2.2.2.2 = some B ∧ r = nI (los a.1 B a.2.1)))
noncomputable def lob (n : Nat) (B K : Nat → Nat → Nat) (i j : Nat) : Nat := lm n (tp n B) (tl n B) i j - los n B K
noncomputable def upb (n : Nat) (B K : Nat → Nat → Nat) (i j : Nat) : Nat := lw n (tp n B) K i j
def rPair (val : Nat → (Nat → Nat → Nat) → (Nat → Nat → Nat) → Nat → Nat → Nat) (s t : Int32) (a : AS) (r : Int32) (a' : AS) : Prop := a' = a ∧ ((pe a.1 s t ≠ 0 ∧ r = pe a.1 s t) ∨ (pe a.1 s t = 0 ∧ a.2.2.2.2 = none ∧ r = -4) ∨ (∃ B i j, a.2.2.2.2 = some B ∧ okP a.1 s t i j ∧ r = nI (val a.1 B a.2.1 i j)))
def rBM (i j : Nat) (a a' : AS) : Prop := ((∃ B, a.2.2.2.2 = some B ∧ lob a.1 B a.2.1 i j = upb a.1 B a.2.1 i j) ∧ a' = a) ∨ (¬ (∃ B, a.2.2.2.2 = some B ∧ lob a.1 B a.2.1 i j = upb a.1 B a.2.1 i j) ∧ a' = rb a)
def rMin (s t : Int32) (a : AS) (r : Int32) (a' : AS) : Prop := (pe a.1 s t ≠ 0 ∧ r = pe a.1 s t ∧ a' = a) ∨ (∃ i j B, okP a.1 s t i j ∧ rBM i j a a' ∧ a'.2.2.2.2 = some B ∧ r = nI (upb a.1 B a.2.1 i j))
def rWit (s t : Int32) (a : AS) (r : Int32) (a' : AS) : Prop := (pe a.1 s t ≠ 0 ∧ r = pe a.1 s t ∧ a' = a) ∨ (∃ i j B q, okP a.1 s t i j ∧ rBM i j a a' ∧ a'.2.2.2.2 = some B ∧ isB a.1 (tp a.1 B) a.2.1 i j a.1 q ∧ r = wit a.1 (tp a.1 B) i q)
def rAB (i j m : Nat) (a a' : AS) : Prop := ((∃ B, a.2.2.2.2 = some B ∧ ¬ (lob a.1 B a.2.1 i j < m ∧ m ≤ upb a.1 B a.2.1 i j)) ∧ a' = a) ∨ (¬ (∃ B, a.2.2.2.2 = some B ∧ ¬ (lob a.1 B a.2.1 i j < m ∧ m ≤ upb a.1 B a.2.1 i j)) ∧ a' = rb a)
def rAt (s t l : Int32) (a : AS) (r : Int32) (a' : AS) : Prop := (pe a.1 s t ≠ 0 ∧ r = pe a.1 s t ∧ a' = a) ∨ (pe a.1 s t = 0 ∧ okLim l = false ∧ r = -3 ∧ a' = a) ∨ (∃ i j m B, okP a.1 s t i j ∧ m ≤ 20000 ∧ l = nI m ∧ rAB i j m a a' ∧ a'.2.2.2.2 = some B ∧ r = b2i (decide (m ≤ lob a.1 B a.2.1 i j)))
def rLight (k : Int32) (a : AS) (r : Int32) (a' : AS) : Prop := (k < 0 ∧ r = -3 ∧ a' = a) ∨ (¬ k < 0 ∧ rF a a' ∧ r = o2i (fst1 (fun x => decide (nI (ltn a.1 (tl a.1 a.2.1) x) = k)) (a.1 - 1) 1))
def rCC (l : Int32) (a : AS) (r : Int32) (a' : AS) : Prop := (okLim l = false ∧ r = -3 ∧ a' = a) ∨ (∃ m, m ≤ 20000 ∧ l = nI m ∧ rF a a' ∧ r = nI (1 + lbn a.1 (tl a.1 a.2.1) m))
def rCO (k l : Int32) (a : AS) (r : Int32) (a' : AS) : Prop := (okN a.1 k = false ∧ r = -1 ∧ a' = a) ∨ (okN a.1 k = true ∧ okLim l = false ∧ r = -3 ∧ a' = a) ∨ (∃ i m, i < a.1 ∧ k = nI i ∧ m ≤ 20000 ∧ l = nI m ∧ rF a a' ∧ r = nI (cls0 a.1 (tp a.1 a.2.1) (tl a.1 a.2.1) m i a.1))
def rPart (k : Int32) (a : AS) (r : Int32) (a' : AS) : Prop := (okN a.1 k = false ∧ r = -1 ∧ a' = a) ∨ (∃ i, i < a.1 ∧ k = nI i ∧ rF a a' ∧ r = o2i ((mst (fun o => lm a.1 (tp a.1 a.2.1) (tl a.1 a.2.1) i o) i a.1).map Prod.fst))
def rLA (x : Int32) (a : AS) (r : Int32) (a' : AS) : Prop := (okC a.1 x = false ∧ r = -3 ∧ a' = a) ∨ (∃ S w, 0 < S ∧ S < 2 ^ a.1 - 1 ∧ x = nI S ∧ rF a a' ∧ isLA a.1 (lm a.1 (tp a.1 a.2.1) (tl a.1 a.2.1)) S w ∧ r = nI w)
theorem okLim_of {l : Int32} (h : okLim l = true) : ∃ m, m ≤ 20000 ∧ l = nI m := by
  rw [okLim, decide_eq_true_eq] at h
  exact nI_of2 (M := 20000) (n := 20000) (by decide) (Int32.not_lt.mpr h.1) h.2
theorem okLim_nI {m : Nat} (h : m ≤ 20000) : okLim (nI m) = true := by
  rw [okLim, decide_eq_true_eq]
  exact ⟨nI_pos' (by omega), nI_le (b := 20000) h (by omega)⟩
theorem okC_nI {n S : Nat} (hn : n ≤ 12) (h0 : 0 < S) (h1 : S < 2 ^ n - 1) : okC n (nI S) = true := by
  have := p12 hn
  rw [okC, decide_eq_true_eq]
  exact ⟨by rw [← nI_0]; exact nI_lt h0 (by omega), nI_lt h1 (by omega)⟩
/-- THE COMPONENT'S STATE -/
def cSt (a : AS) (σ : zS) : Prop := ∃ (xfl xn : Int32) (xcap : Nat → Nat → Int32) (xfs xss xbs : Nat → Int32) (xnx xsz xsd : Int32) (xct : Nat → Nat → Int32) (xpa xla xsi : Nat → Int32) (xre : Nat → Nat → Int32) (xcf : Nat → Int32) (xfn xrc : Int32), σ = (CW xfl xn xcap xfs xss xbs xnx xsz xsd xct xpa xla xsi xre xcf xfn xrc) ∧ cG xn xcap a.1 a.2.1 ∧ cR a.1 xfs xss xbs xnx xsz a.2.2.1 ∧ a.2.2.2.1 = xfl ∧ cT a.1 xsd xct xpa xla xsi a.2.2.2.2
theorem cSt_mk {n : Nat} {K : Nat → Nat → Nat} {L : List (Nat × Nat × Nat)} {F : Int32} {ob : Option (Nat → Nat → Nat)} {xfl xn : Int32} {xcap : Nat → Nat → Int32} {xfs xss xbs : Nat → Int32} {xnx xsz xsd : Int32} {xct : Nat → Nat → Int32} {xpa xla xsi : Nat → Int32} {xre : Nat → Nat → Int32} {xcf : Nat → Int32} {xfn xrc : Int32} (h1 : cG xn xcap n K) (h2 : cR n xfs xss xbs xnx xsz L) (h3 : F = xfl) (h4 : cT n xsd xct xpa xla xsi ob) : cSt (n, K, L, F, ob) (CW xfl xn xcap xfs xss xbs xnx xsz xsd xct xpa xla xsi xre xcf xfn xrc) := ⟨_, _, _, _, _, _, _, _, _, _, _, _, _, _, _, _, _, rfl, h1, h2, h3, h4⟩
theorem cT_0 {n : Nat} {xsd : Int32} {xct : Nat → Nat → Int32} {xpa xla xsi : Nat → Int32} {ob : Option (Nat → Nat → Nat)} (h : cT n xsd xct xpa xla xsi ob) : (xsd = 0 ∧ ob = none) ∨ (xsd = 1 ∧ ∃ B, ob = some B) := by
  rcases h with ⟨h1, h2⟩ | ⟨B, h1, h2, -⟩
  · exact Or.inl ⟨h2.symm, h1⟩
  · exact Or.inr ⟨h2.symm, B, h1⟩
theorem cG_put {n u v w : Nat} {xn c : Int32} {xcap cap' : Nat → Nat → Int32} {K : Nat → Nat → Nat} (hG : cG xn xcap n K) (hu : u < n) (hv : v < n) (huv : u ≠ v) (hw : w ≤ 999) (hc : c = nI w) (h : ∀ i j, cap' i j = if (i = u ∧ j = v) ∨ (i = v ∧ j = u) then c else xcap i j) : cG xn cap' n (put K u v w) := by
  obtain ⟨h1, h2, h3, h4, h5⟩ := hG
  refine ⟨h1, h2, h3, fun i j hi hj => ?_, gK_put h5 hu hv huv hw⟩
  rw [h]
  unfold put
  split
  · exact hc
  · exact h4 i j hi hj

