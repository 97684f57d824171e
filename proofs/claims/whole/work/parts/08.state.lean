/-! THE STORES of the component (CW) and of the reference (MW). Places of CW: 0 the keeper, 1 Graph, 2 capacities, 3 ChangeList, 4 5 6 its rows, 7 CutTree, 8 NearCutFinder, 9 rest, 10 cameFrom, 11 capacitiesThen, 12 parents, 13 labels, 14 sides; of MW: 0 the object, 1 capacityOf, 2 3 4 the changes, 5 parentOf, 6 labelOf, 7 builtWith, 8 weightOf. -/
def CW (xfl : Int32) (xn : Int32) (xcap : Nat → Nat → Int32) (xfs : Nat → Int32) (xss : Nat → Int32) (xbs : Nat → Int32) (xnx : Int32) (xsz : Int32) (xsd : Int32) (xct : Nat → Nat → Int32) (xpa : Nat → Int32) (xla : Nat → Int32) (xsi : Nat → Int32) (xre : Nat → Nat → Int32) (xcf : Nat → Int32) (xfn : Int32) (xrc : Int32) : zS := [.inl (4, [.inr (.inl 1), .inr (.inl 3), .inr (.inl 7), .inl xfl]), .inl (2, [.inr (.inl 2), .inl xn]), .inr (.inr xcap), .inl (0, [.inr (.inl 4), .inr (.inl 5), .inr (.inl 6), .inl xnx, .inl xsz]), .inr (.inl (40, xfs)), .inr (.inl (40, xss)), .inr (.inl (40, xbs)), .inl (1, [.inr (.inl 1), .inr (.inl 8), .inr (.inl 11), .inr (.inl 12), .inr (.inl 13), .inr (.inl 14), .inl xsd]), .inl (3, [.inr (.inl 9), .inr (.inl 10), .inl xfn, .inl xrc]), .inr (.inr xre), .inr (.inl (12, xcf)), .inr (.inr xct), .inr (.inl (12, xpa)), .inr (.inl (12, xla)), .inr (.inl (12, xsi))]
def MW (yn : Int32) (ycap : Nat → Int32) (ych : Int32) (ycf : Nat → Int32) (yct : Nat → Int32) (ycw : Nat → Int32) (yfl : Int32) (ysd : Int32) (ypa : Nat → Int32) (yla : Nat → Int32) (ybw : Nat → Int32) (ywo : Nat → Int32) (yns : Int32) (ynw : Int32) : zS := [.inl (5, [.inl yn, .inr (.inl 1), .inl ych, .inr (.inl 2), .inr (.inl 3), .inr (.inl 4), .inl yfl, .inl ysd, .inr (.inl 5), .inr (.inl 6), .inr (.inl 7), .inr (.inl 8), .inl yns, .inl ynw]), .inr (.inl (144, ycap)), .inr (.inl (40, ycf)), .inr (.inl (40, yct)), .inr (.inl (40, ycw)), .inr (.inl (12, ypa)), .inr (.inl (12, yla)), .inr (.inl (144, ybw)), .inr (.inl (4096, ywo))]

def fillv (n : Nat) (v : Int32) (f : Nat → Int32) : Nat → Int32 := fun j => if j < n then v else f j
theorem fillv_step {i : Nat} {v : Int32} {f : Nat → Int32} : upd (fillv i v f) i v = fillv (i + 1) v f := by
  funext j
  by_cases h : j = i
  · subst h; simp [upd, fillv]
  · by_cases h2 : j < i
    · simp [upd, fillv, h, h2, Nat.lt_succ_of_lt h2]
    · simp [upd, fillv, h, h2, show ¬ j < i + 1 by omega]
theorem fillv_0 {v : Int32} {f : Nat → Int32} : fillv 0 v f = f := by funext j; simp [fillv]
theorem zup_up {f : Nat → Nat → Int32} {i : Nat} {g h : Nat → Int32} : zup (zup f i g) i h = zup f i h := by
  funext q; by_cases e : q = i <;> simp [zup, e]
theorem zup_at {f : Nat → Nat → Int32} {i : Nat} {g : Nat → Int32} : zup f i g i = g := by simp [zup]
theorem zup_self {f : Nat → Nat → Int32} {i : Nat} : zup f i (f i) = f := by
  funext q; by_cases e : q = i
  · subst e; simp [zup]
  · simp [zup, e]
/-- what Arrays.fill does in the component's store: a row of the capacities, parents, labels, sides -/
def zfl (v : Int32) (r : Nat ⊕ (Nat × Nat)) (cap cap' : Nat → Nat → Int32) (pa pa' la la' si si' : Nat → Int32) : Prop :=
  (∃ i, i < 12 ∧ r = .inr (2, i) ∧ zup cap i (fillv 12 v (cap i)) = cap' ∧ pa = pa' ∧ la = la' ∧ si = si') ∨ (r = .inl 12 ∧ cap = cap' ∧ fillv 12 v pa = pa' ∧ la = la' ∧ si = si') ∨ (r = .inl 13 ∧ cap = cap' ∧ pa = pa' ∧ fillv 12 v la = la' ∧ si = si') ∨ (r = .inl 14 ∧ cap = cap' ∧ pa = pa' ∧ la = la' ∧ fillv 12 v si = si')
/-- Arrays.fill(row, v) -/
def kJ7_fill_53178 : zK := fun as0 st0 P => ∃ r : Nat ⊕ (Nat × Nat), ∃ v : Int32, ∃ xfl : Int32, ∃ xn : Int32, ∃ xcap : Nat → Nat → Int32, ∃ xfs : Nat → Int32, ∃ xss : Nat → Int32, ∃ xbs : Nat → Int32, ∃ xnx : Int32, ∃ xsz : Int32, ∃ xsd : Int32, ∃ xct : Nat → Nat → Int32, ∃ xpa : Nat → Int32, ∃ xla : Nat → Int32, ∃ xsi : Nat → Int32, ∃ xre : Nat → Nat → Int32, ∃ xcf : Nat → Int32, ∃ xfn : Int32, ∃ xrc : Int32, ∃ cap' : Nat → Nat → Int32, ∃ pa' : Nat → Int32, ∃ la' : Nat → Int32, ∃ si' : Nat → Int32, (zfl v r xcap cap' xpa pa' xla la' xsi si') ∧ as0 = [.inr r, .inl v] ∧ st0 = (CW xfl xn xcap xfs xss xbs xnx xsz xsd xct xpa xla xsi xre xcf xfn xrc) ∧ (P none (CW xfl xn (cap') xfs xss xbs xnx xsz xsd xct (pa') (la') (si') xre xcf xfn xrc))
def iJ7_fill_53178 (C0 : zK) : Prop := ∀ {r : Nat ⊕ (Nat × Nat)} {v : Int32} {xfl : Int32} {xn : Int32} {xcap : Nat → Nat → Int32} {xfs : Nat → Int32} {xss : Nat → Int32} {xbs : Nat → Int32} {xnx : Int32} {xsz : Int32} {xsd : Int32} {xct : Nat → Nat → Int32} {xpa : Nat → Int32} {xla : Nat → Int32} {xsi : Nat → Int32} {xre : Nat → Nat → Int32} {xcf : Nat → Int32} {xfn : Int32} {xrc : Int32} {cap' : Nat → Nat → Int32} {pa' : Nat → Int32} {la' : Nat → Int32} {si' : Nat → Int32} {P : zP}, (zfl v r xcap cap' xpa pa' xla la' xsi si') → (P none (CW xfl xn (cap') xfs xss xbs xnx xsz xsd xct (pa') (la') (si') xre xcf xfn xrc)) → C0 [.inr r, .inl v] ((CW xfl xn xcap xfs xss xbs xnx xsz xsd xct xpa xla xsi xre xcf xfn xrc)) P
theorem eJ7_fill_53178 : iJ7_fill_53178 kJ7_fill_53178 := by
  intro r v xfl xn xcap xfs xss xbs xnx xsz xsd xct xpa xla xsi xre xcf xfn xrc cap' pa' la' si' P h0 hz
  exact ⟨r, v, xfl, xn, xcap, xfs, xss, xbs, xnx, xsz, xsd, xct, xpa, xla, xsi, xre, xcf, xfn, xrc, cap', pa', la', si', h0, rfl, rfl, hz⟩
theorem oJ7_fill_53178 (l : Launch) : zOK l RJ7 cJ7_fill_53178 rJ7_fill_53178 none (tJ7_fill_53178, fJ7, gJ7, [], [], 0) := ⟨tJ7_fill_53178_ok, fJ7_ok, gJ7_ok, fun _ h => absurd h List.not_mem_nil, by decide +kernel, rfl⟩
set_option maxRecDepth 100000 in
set_option maxHeartbeats 4000000 in
theorem wJ7_fill_53178 {r : Nat ⊕ (Nat × Nat)} {v : Int32} {xfl : Int32} {xn : Int32} {xcap : Nat → Nat → Int32} {xfs : Nat → Int32} {xss : Nat → Int32} {xbs : Nat → Int32} {xnx : Int32} {xsz : Int32} {xsd : Int32} {xct : Nat → Nat → Int32} {xpa : Nat → Int32} {xla : Nat → Int32} {xsi : Nat → Int32} {xre : Nat → Nat → Int32} {xcf : Nat → Int32} {xfn : Int32} {xrc : Int32} {cap' : Nat → Nat → Int32} {pa' : Nat → Int32} {la' : Nat → Int32} {si' : Nat → Int32} {P : zP} (hr : zfl v r xcap cap' xpa pa' xla la' xsi si') (hp : P none (CW xfl xn (cap') xfs xss xbs xnx xsz xsd xct (pa') (la') (si') xre xcf xfn xrc)) {Z : zH} (hZ : zcl (tJ7_fill_53178, fJ7, gJ7, [], [], 0) P Z) : Z ((CW xfl xn xcap xfs xss xbs xnx xsz xsd xct xpa xla xsi xre xcf xfn xrc)) 0 [some (.inr r), some (.inl v), none, none] [] := by
  rcases hr with ⟨i, hi, rfl, rfl, rfl, rfl, rfl⟩ | ⟨rfl, rfl, rfl, rfl, rfl⟩ | ⟨rfl, rfl, rfl, rfl, rfl⟩ | ⟨rfl, rfl, rfl, rfl, rfl⟩
  · have loop : ∀ (c j : Nat), 12 ≤ j + c → j ≤ 12 → Z (CW xfl xn (zup xcap i (fillv j v (xcap i))) xfs xss xbs xnx xsz xsd xct xpa xla xsi xre xcf xfn xrc) 5 [some (.inr (.inr (2, i))), some (.inl v), some (.inl (nI j)), some (.inl (nI 12))] [] := by
      intro c
      induction c with
      | zero =>
        intro j h1 h2
        obtain rfl : j = 12 := by omega
        refine hZ [] 20 _ _ _ _ ?_
        exact And.intro (fun c => hp) (fun c => absurd (Int32.le_refl _) c)
      | succ c ih =>
        intro j h1 h2
        refine hZ [5] 20 _ _ _ _ ?_
        refine pk_le 12 j (fun c => ?_) (fun c => ?_)
        · obtain rfl : j = 12 := by omega
          exact hp
        · refine And.intro ⟨hi, vp_in_nI (by omega) (by omega)⟩ ?_
          have h9 := ih (j + 1) (by omega) (by omega)
          rw [nI_succ, ← fillv_step] at h9
          rw [nI_clamp (by omega), zup_up, zup_at]
          exact h9
    have h0 := loop 12 0 (by omega) (by omega)
    rw [fillv_0, zup_self] at h0
    refine hZ [5] 20 _ _ _ _ ?_
    exact And.intro hi h0
  · have loop : ∀ (c j : Nat), 12 ≤ j + c → j ≤ 12 → Z (CW xfl xn xcap xfs xss xbs xnx xsz xsd xct (fillv j v xpa) xla xsi xre xcf xfn xrc) 5 [some (.inr (.inl 12)), some (.inl v), some (.inl (nI j)), some (.inl (nI 12))] [] := by
      intro c
      induction c with
      | zero =>
        intro j h1 h2
        obtain rfl : j = 12 := by omega
        refine hZ [] 20 _ _ _ _ ?_
        exact And.intro (fun c => hp) (fun c => absurd (Int32.le_refl _) c)
      | succ c ih =>
        intro j h1 h2
        refine hZ [5] 20 _ _ _ _ ?_
        refine pk_le 12 j (fun c => ?_) (fun c => ?_)
        · obtain rfl : j = 12 := by omega
          exact hp
        · refine And.intro (vp_in_nI (by omega) (by omega)) ?_
          have h9 := ih (j + 1) (by omega) (by omega)
          rw [nI_succ, ← fillv_step] at h9
          rw [nI_clamp (by omega)]
          exact h9
    have h0 := loop 12 0 (by omega) (by omega)
    rw [fillv_0] at h0
    refine hZ [5] 20 _ _ _ _ ?_
    exact h0
  · have loop : ∀ (c j : Nat), 12 ≤ j + c → j ≤ 12 → Z (CW xfl xn xcap xfs xss xbs xnx xsz xsd xct xpa (fillv j v xla) xsi xre xcf xfn xrc) 5 [some (.inr (.inl 13)), some (.inl v), some (.inl (nI j)), some (.inl (nI 12))] [] := by
      intro c
      induction c with
      | zero =>
        intro j h1 h2
        obtain rfl : j = 12 := by omega
        refine hZ [] 20 _ _ _ _ ?_
        exact And.intro (fun c => hp) (fun c => absurd (Int32.le_refl _) c)
      | succ c ih =>
        intro j h1 h2
        refine hZ [5] 20 _ _ _ _ ?_
        refine pk_le 12 j (fun c => ?_) (fun c => ?_)
        · obtain rfl : j = 12 := by omega
          exact hp
        · refine And.intro (vp_in_nI (by omega) (by omega)) ?_
          have h9 := ih (j + 1) (by omega) (by omega)
          rw [nI_succ, ← fillv_step] at h9
          rw [nI_clamp (by omega)]
          exact h9
    have h0 := loop 12 0 (by omega) (by omega)
    rw [fillv_0] at h0
    refine hZ [5] 20 _ _ _ _ ?_
    exact h0
  · have loop : ∀ (c j : Nat), 12 ≤ j + c → j ≤ 12 → Z (CW xfl xn xcap xfs xss xbs xnx xsz xsd xct xpa xla (fillv j v xsi) xre xcf xfn xrc) 5 [some (.inr (.inl 14)), some (.inl v), some (.inl (nI j)), some (.inl (nI 12))] [] := by
      intro c
      induction c with
      | zero =>
        intro j h1 h2
        obtain rfl : j = 12 := by omega
        refine hZ [] 20 _ _ _ _ ?_
        exact And.intro (fun c => hp) (fun c => absurd (Int32.le_refl _) c)
      | succ c ih =>
        intro j h1 h2
        refine hZ [5] 20 _ _ _ _ ?_
        refine pk_le 12 j (fun c => ?_) (fun c => ?_)
        · obtain rfl : j = 12 := by omega
          exact hp
        · refine And.intro (vp_in_nI (by omega) (by omega)) ?_
          have h9 := ih (j + 1) (by omega) (by omega)
          rw [nI_succ, ← fillv_step] at h9
          rw [nI_clamp (by omega)]
          exact h9
    have h0 := loop 12 0 (by omega) (by omega)
    rw [fillv_0] at h0
    refine hZ [5] 20 _ _ _ _ ?_
    exact h0
theorem zJ7_fill_53178 (l : Launch) : zMet l yJ7_fill_53178 cJ7_fill_53178 4 none rJ7_fill_53178 kJ7_fill_53178 := zMet_of (by decide) ⟨rfl, rfl⟩ (oJ7_fill_53178 l) (fun as0 st0 P h => by
  obtain ⟨r, v, xfl, xn, xcap, xfs, xss, xbs, xnx, xsz, xsd, xct, xpa, xla, xsi, xre, xcf, xfn, xrc, cap', pa', la', si', h0, rfl, rfl, hz⟩ := h
  exact ⟨Nat.le_of_ble_eq_true rfl, fun Z hZ => wJ7_fill_53178 h0 hz hZ⟩)

