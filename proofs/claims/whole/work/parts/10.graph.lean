/-- startWith(k): no edges, k nodes -/
def kX2_startWith : zK := fun as0 st0 P => ∃ xfl : Int32, ∃ xn : Int32, ∃ xcap : Nat → Nat → Int32, ∃ xfs : Nat → Int32, ∃ xss : Nat → Int32, ∃ xbs : Nat → Int32, ∃ xnx : Int32, ∃ xsz : Int32, ∃ xsd : Int32, ∃ xct : Nat → Nat → Int32, ∃ xpa : Nat → Int32, ∃ xla : Nat → Int32, ∃ xsi : Nat → Int32, ∃ xre : Nat → Nat → Int32, ∃ xcf : Nat → Int32, ∃ xfn : Int32, ∃ xrc : Int32, ∃ k : Int32, as0 = [.inr (.inl 1), .inl k] ∧ st0 = (CW xfl xn xcap xfs xss xbs xnx xsz xsd xct xpa xla xsi xre xcf xfn xrc) ∧ (∀ cap', (∀ i j, i < 12 → j < 12 → cap' i j = 0) → P none (CW xfl (k) (cap') xfs xss xbs xnx xsz xsd xct xpa xla xsi xre xcf xfn xrc))
def iX2_startWith (C0 : zK) : Prop := ∀ {xfl : Int32} {xn : Int32} {xcap : Nat → Nat → Int32} {xfs : Nat → Int32} {xss : Nat → Int32} {xbs : Nat → Int32} {xnx : Int32} {xsz : Int32} {xsd : Int32} {xct : Nat → Nat → Int32} {xpa : Nat → Int32} {xla : Nat → Int32} {xsi : Nat → Int32} {xre : Nat → Nat → Int32} {xcf : Nat → Int32} {xfn : Int32} {xrc : Int32} {k : Int32} {P : zP}, (∀ cap', (∀ i j, i < 12 → j < 12 → cap' i j = 0) → P none (CW xfl (k) (cap') xfs xss xbs xnx xsz xsd xct xpa xla xsi xre xcf xfn xrc)) → C0 [.inr (.inl 1), .inl k] ((CW xfl xn xcap xfs xss xbs xnx xsz xsd xct xpa xla xsi xre xcf xfn xrc)) P
theorem eX2_startWith : iX2_startWith kX2_startWith := by
  intro xfl xn xcap xfs xss xbs xnx xsz xsd xct xpa xla xsi xre xcf xfn xrc k P  hz
  exact ⟨xfl, xn, xcap, xfs, xss, xbs, xnx, xsz, xsd, xct, xpa, xla, xsi, xre, xcf, xfn, xrc, k, rfl, rfl, hz⟩
theorem oX2_startWith (l : Launch) : zOK l RX2 cX2_startWith rX2_startWith none (tX2_startWith, fX2, gX2, [(20, 2, 100, kJ7_fill_53178)], [], 0) := ⟨tX2_startWith_ok, fX2_ok, gX2_ok, List.forall_mem_cons.mpr ⟨⟨yJ7_fill_53178, cJ7_fill_53178, 4, none, rJ7_fill_53178, zJ7_fill_53178 l, by decide +kernel, ykJ7_fill_53178, lkX2_20⟩, fun _ h => absurd h List.not_mem_nil⟩, by decide +kernel, rfl⟩
set_option maxRecDepth 100000 in
set_option maxHeartbeats 4000000 in
theorem wX2_startWith {CJ7_fill_53178 : zK} (HJ7_fill_53178 : iJ7_fill_53178 CJ7_fill_53178) {xfl : Int32} {xn : Int32} {xcap : Nat → Nat → Int32} {xfs : Nat → Int32} {xss : Nat → Int32} {xbs : Nat → Int32} {xnx : Int32} {xsz : Int32} {xsd : Int32} {xct : Nat → Nat → Int32} {xpa : Nat → Int32} {xla : Nat → Int32} {xsi : Nat → Int32} {xre : Nat → Nat → Int32} {xcf : Nat → Int32} {xfn : Int32} {xrc : Int32} {k : Int32} {P : zP} (hp : ∀ cap', (∀ i j, i < 12 → j < 12 → cap' i j = 0) → P none (CW xfl (k) (cap') xfs xss xbs xnx xsz xsd xct xpa xla xsi xre xcf xfn xrc)) {Z : zH} (hZ : zcl (tX2_startWith, fX2, gX2, [(20, 2, 100, CJ7_fill_53178)], [], 0) P Z) : Z ((CW xfl xn xcap xfs xss xbs xnx xsz xsd xct xpa xla xsi xre xcf xfn xrc)) 0 [some (.inr (.inl 1)), some (.inl k), none] [] := by
  have loop : ∀ u, u ≤ 12 → ∀ cap', (∀ i j, i < u → j < 12 → cap' i j = 0) → Z (CW xfl xn (cap') xfs xss xbs xnx xsz xsd xct xpa xla xsi xre xcf xfn xrc) 2 [some (.inr (.inl 1)), some (.inl k), some (.inl (nI u))] [] := by
    refine dn (Q := fun u => ∀ cap', (∀ i j, i < u → j < 12 → cap' i j = 0) → Z (CW xfl xn (cap') xfs xss xbs xnx xsz xsd xct xpa xla xsi xre xcf xfn xrc) 2 [some (.inr (.inl 1)), some (.inl k), some (.inl (nI u))] []) ?_ ?_
    · intro cap' hc
      refine hZ [] 40 _ _ _ _ ?_
      exact pk_le 12 12 (fun _ => hp cap' hc) (fun c => absurd c (by omega))
    · intro u hu ih cap' hc
      refine hZ [2] 40 _ _ _ _ ?_
      refine pk_le 12 u (fun c => absurd c (by omega)) (fun _ => ?_)
      refine And.intro (in12 hu) ?_
      rw [cl12 hu]
      refine HJ7_fill_53178 (Or.inl ⟨u, hu, rfl, rfl, rfl, rfl, rfl⟩) ?_
      have h9 := ih (zup cap' u (fillv 12 0 (cap' u))) (fun i j hi hj => by
        by_cases e : i = u
        · subst e; rw [zup_at, fillv, if_pos hj]
        · have : zup cap' u (fillv 12 0 (cap' u)) i = cap' i := by simp [zup, e]
          rw [this]; exact hc i j (by omega) hj)
      rw [nI_succ] at h9
      exact h9
  refine hZ [2] 40 _ _ _ _ ?_
  exact loop 0 (by omega) xcap (fun i j hi _ => absurd hi (by omega))
theorem zX2_startWith (l : Launch) : zMet l yX2_startWith cX2_startWith 3 none rX2_startWith kX2_startWith := zMet_of (by decide) ⟨rfl, rfl⟩ (oX2_startWith l) (fun as0 st0 P h => by
  obtain ⟨xfl, xn, xcap, xfs, xss, xbs, xnx, xsz, xsd, xct, xpa, xla, xsi, xre, xcf, xfn, xrc, k, rfl, rfl, hz⟩ := h
  exact ⟨Nat.le_of_ble_eq_true rfl, fun Z hZ => wX2_startWith eJ7_fill_53178 hz hZ⟩)

/-- hasNode(k) -/
def kX2_hasNode : zK := fun as0 st0 P => ∃ xfl : Int32, ∃ xn : Int32, ∃ xcap : Nat → Nat → Int32, ∃ xfs : Nat → Int32, ∃ xss : Nat → Int32, ∃ xbs : Nat → Int32, ∃ xnx : Int32, ∃ xsz : Int32, ∃ xsd : Int32, ∃ xct : Nat → Nat → Int32, ∃ xpa : Nat → Int32, ∃ xla : Nat → Int32, ∃ xsi : Nat → Int32, ∃ xre : Nat → Nat → Int32, ∃ xcf : Nat → Int32, ∃ xfn : Int32, ∃ xrc : Int32, ∃ k : Int32, ∃ n : Nat, (nI n = xn) ∧ as0 = [.inr (.inl 1), .inl k] ∧ st0 = (CW xfl xn xcap xfs xss xbs xnx xsz xsd xct xpa xla xsi xre xcf xfn xrc) ∧ (P (some (.inl (b2i (okN n k)))) (CW xfl xn xcap xfs xss xbs xnx xsz xsd xct xpa xla xsi xre xcf xfn xrc))
def iX2_hasNode (C0 : zK) : Prop := ∀ {xfl : Int32} {xn : Int32} {xcap : Nat → Nat → Int32} {xfs : Nat → Int32} {xss : Nat → Int32} {xbs : Nat → Int32} {xnx : Int32} {xsz : Int32} {xsd : Int32} {xct : Nat → Nat → Int32} {xpa : Nat → Int32} {xla : Nat → Int32} {xsi : Nat → Int32} {xre : Nat → Nat → Int32} {xcf : Nat → Int32} {xfn : Int32} {xrc : Int32} {k : Int32} {n : Nat} {P : zP}, (nI n = xn) → (P (some (.inl (b2i (okN n k)))) (CW xfl xn xcap xfs xss xbs xnx xsz xsd xct xpa xla xsi xre xcf xfn xrc)) → C0 [.inr (.inl 1), .inl k] ((CW xfl xn xcap xfs xss xbs xnx xsz xsd xct xpa xla xsi xre xcf xfn xrc)) P
theorem eX2_hasNode : iX2_hasNode kX2_hasNode := by
  intro xfl xn xcap xfs xss xbs xnx xsz xsd xct xpa xla xsi xre xcf xfn xrc k n P h0 hz
  exact ⟨xfl, xn, xcap, xfs, xss, xbs, xnx, xsz, xsd, xct, xpa, xla, xsi, xre, xcf, xfn, xrc, k, n, h0, rfl, rfl, hz⟩
theorem oX2_hasNode (l : Launch) : zOK l RX2 cX2_hasNode rX2_hasNode (some .boolean) (tX2_hasNode, fX2, gX2, [], [], 2) := ⟨tX2_hasNode_ok, fX2_ok, gX2_ok, fun _ h => absurd h List.not_mem_nil, by decide +kernel, rfl⟩
set_option maxRecDepth 100000 in
set_option maxHeartbeats 4000000 in
theorem wX2_hasNode {xfl : Int32} {xn : Int32} {xcap : Nat → Nat → Int32} {xfs : Nat → Int32} {xss : Nat → Int32} {xbs : Nat → Int32} {xnx : Int32} {xsz : Int32} {xsd : Int32} {xct : Nat → Nat → Int32} {xpa : Nat → Int32} {xla : Nat → Int32} {xsi : Nat → Int32} {xre : Nat → Nat → Int32} {xcf : Nat → Int32} {xfn : Int32} {xrc : Int32} {k : Int32} {n : Nat} {P : zP} (hn : nI n = xn) (hp : P (some (.inl (b2i (okN n k)))) (CW xfl xn xcap xfs xss xbs xnx xsz xsd xct xpa xla xsi xre xcf xfn xrc)) {Z : zH} (hZ : zcl (tX2_hasNode, fX2, gX2, [], [], 2) P Z) : Z ((CW xfl xn xcap xfs xss xbs xnx xsz xsd xct xpa xla xsi xre xcf xfn xrc)) 0 [some (.inr (.inl 1)), some (.inl k)] [] := by
  subst hn
  refine hZ [] 40 _ _ _ _ ?_
  refine And.intro (fun c => ?_) (fun c => ?_)
  · have e : okN n k = false := by rw [okN, decide_eq_false_iff_not]; exact fun q => Int32.not_le.mpr c q.1
    rw [e] at hp
    exact And.intro (Or.inl rfl) hp
  · refine And.intro (fun c2 => ?_) (fun c2 => ?_)
    · have e : okN n k = false := by rw [okN, decide_eq_false_iff_not]; exact fun q => Int32.not_le.mpr q.2 c2
      rw [e] at hp
      exact And.intro (Or.inl rfl) hp
    · have e : okN n k = true := by rw [okN, decide_eq_true_eq]; exact ⟨Int32.not_lt.mp c, Int32.not_le.mp c2⟩
      rw [e] at hp
      exact And.intro (Or.inr rfl) hp
theorem zX2_hasNode (l : Launch) : zMet l yX2_hasNode cX2_hasNode 2 (some .boolean) rX2_hasNode kX2_hasNode := zMet_of (by decide) ⟨rfl, rfl⟩ (oX2_hasNode l) (fun as0 st0 P h => by
  obtain ⟨xfl, xn, xcap, xfs, xss, xbs, xnx, xsz, xsd, xct, xpa, xla, xsi, xre, xcf, xfn, xrc, k, n, h0, rfl, rfl, hz⟩ := h
  exact ⟨Nat.le_of_ble_eq_true rfl, fun Z hZ => wX2_hasNode h0 hz hZ⟩)

/-- between(u, v) -/
def kX2_between : zK := fun as0 st0 P => ∃ xfl : Int32, ∃ xn : Int32, ∃ xcap : Nat → Nat → Int32, ∃ xfs : Nat → Int32, ∃ xss : Nat → Int32, ∃ xbs : Nat → Int32, ∃ xnx : Int32, ∃ xsz : Int32, ∃ xsd : Int32, ∃ xct : Nat → Nat → Int32, ∃ xpa : Nat → Int32, ∃ xla : Nat → Int32, ∃ xsi : Nat → Int32, ∃ xre : Nat → Nat → Int32, ∃ xcf : Nat → Int32, ∃ xfn : Int32, ∃ xrc : Int32, ∃ a : Int32, ∃ b : Int32, ∃ u : Nat, ∃ v : Nat, (a = nI u) ∧ (b = nI v) ∧ (u < 12) ∧ (v < 12) ∧ as0 = [.inr (.inl 1), .inl a, .inl b] ∧ st0 = (CW xfl xn xcap xfs xss xbs xnx xsz xsd xct xpa xla xsi xre xcf xfn xrc) ∧ (P (some (.inl (xcap u v))) (CW xfl xn xcap xfs xss xbs xnx xsz xsd xct xpa xla xsi xre xcf xfn xrc))
def iX2_between (C0 : zK) : Prop := ∀ {xfl : Int32} {xn : Int32} {xcap : Nat → Nat → Int32} {xfs : Nat → Int32} {xss : Nat → Int32} {xbs : Nat → Int32} {xnx : Int32} {xsz : Int32} {xsd : Int32} {xct : Nat → Nat → Int32} {xpa : Nat → Int32} {xla : Nat → Int32} {xsi : Nat → Int32} {xre : Nat → Nat → Int32} {xcf : Nat → Int32} {xfn : Int32} {xrc : Int32} {a : Int32} {b : Int32} {u : Nat} {v : Nat} {P : zP}, (a = nI u) → (b = nI v) → (u < 12) → (v < 12) → (P (some (.inl (xcap u v))) (CW xfl xn xcap xfs xss xbs xnx xsz xsd xct xpa xla xsi xre xcf xfn xrc)) → C0 [.inr (.inl 1), .inl a, .inl b] ((CW xfl xn xcap xfs xss xbs xnx xsz xsd xct xpa xla xsi xre xcf xfn xrc)) P
theorem eX2_between : iX2_between kX2_between := by
  intro xfl xn xcap xfs xss xbs xnx xsz xsd xct xpa xla xsi xre xcf xfn xrc a b u v P h0 h1 h2 h3 hz
  exact ⟨xfl, xn, xcap, xfs, xss, xbs, xnx, xsz, xsd, xct, xpa, xla, xsi, xre, xcf, xfn, xrc, a, b, u, v, h0, h1, h2, h3, rfl, rfl, hz⟩
theorem oX2_between (l : Launch) : zOK l RX2 cX2_between rX2_between (some .int) (tX2_between, fX2, gX2, [], [], 1) := ⟨tX2_between_ok, fX2_ok, gX2_ok, fun _ h => absurd h List.not_mem_nil, by decide +kernel, rfl⟩
set_option maxRecDepth 100000 in
set_option maxHeartbeats 4000000 in
theorem wX2_between {xfl : Int32} {xn : Int32} {xcap : Nat → Nat → Int32} {xfs : Nat → Int32} {xss : Nat → Int32} {xbs : Nat → Int32} {xnx : Int32} {xsz : Int32} {xsd : Int32} {xct : Nat → Nat → Int32} {xpa : Nat → Int32} {xla : Nat → Int32} {xsi : Nat → Int32} {xre : Nat → Nat → Int32} {xcf : Nat → Int32} {xfn : Int32} {xrc : Int32} {a : Int32} {b : Int32} {u : Nat} {v : Nat} {P : zP} (ha : a = nI u) (hb : b = nI v) (hu : u < 12) (hv : v < 12) (hp : P (some (.inl (xcap u v))) (CW xfl xn xcap xfs xss xbs xnx xsz xsd xct xpa xla xsi xre xcf xfn xrc)) {Z : zH} (hZ : zcl (tX2_between, fX2, gX2, [], [], 1) P Z) : Z ((CW xfl xn xcap xfs xss xbs xnx xsz xsd xct xpa xla xsi xre xcf xfn xrc)) 0 [some (.inr (.inl 1)), some (.inl a), some (.inl b)] [] := by
  subst ha hb
  refine hZ [] 40 _ _ _ _ ?_
  refine And.intro (in12 hu) ?_
  rw [cl12 hu]
  refine And.intro ⟨hu, in12 hv⟩ ?_
  rw [cl12 hv]
  exact hp
theorem zX2_between (l : Launch) : zMet l yX2_between cX2_between 3 (some .int) rX2_between kX2_between := zMet_of (by decide) ⟨rfl, rfl⟩ (oX2_between l) (fun as0 st0 P h => by
  obtain ⟨xfl, xn, xcap, xfs, xss, xbs, xnx, xsz, xsd, xct, xpa, xla, xsi, xre, xcf, xfn, xrc, a, b, u, v, h0, h1, h2, h3, rfl, rfl, hz⟩ := h
  exact ⟨Nat.le_of_ble_eq_true rfl, fun Z hZ => wX2_between h0 h1 h2 h3 hz hZ⟩)

/-- put(u, v, c) -/
def kX2_put : zK := fun as0 st0 P => ∃ xfl : Int32, ∃ xn : Int32, ∃ xcap : Nat → Nat → Int32, ∃ xfs : Nat → Int32, ∃ xss : Nat → Int32, ∃ xbs : Nat → Int32, ∃ xnx : Int32, ∃ xsz : Int32, ∃ xsd : Int32, ∃ xct : Nat → Nat → Int32, ∃ xpa : Nat → Int32, ∃ xla : Nat → Int32, ∃ xsi : Nat → Int32, ∃ xre : Nat → Nat → Int32, ∃ xcf : Nat → Int32, ∃ xfn : Int32, ∃ xrc : Int32, ∃ n : Nat, ∃ a : Int32, ∃ b : Int32, ∃ c : Int32, ∃ u : Nat, ∃ v : Nat, (nI n = xn) ∧ (n ≤ 12) ∧ (a = nI u) ∧ (b = nI v) ∧ (u < n) ∧ (v < n) ∧ as0 = [.inr (.inl 1), .inl a, .inl b, .inl c] ∧ st0 = (CW xfl xn xcap xfs xss xbs xnx xsz xsd xct xpa xla xsi xre xcf xfn xrc) ∧ (∀ cap', (∀ i j, cap' i j = if (i = u ∧ j = v) ∨ (i = v ∧ j = u) then c else xcap i j) → P none (CW xfl xn (cap') xfs xss xbs xnx xsz xsd xct xpa xla xsi xre xcf xfn xrc))
def iX2_put (C0 : zK) : Prop := ∀ {xfl : Int32} {xn : Int32} {xcap : Nat → Nat → Int32} {xfs : Nat → Int32} {xss : Nat → Int32} {xbs : Nat → Int32} {xnx : Int32} {xsz : Int32} {xsd : Int32} {xct : Nat → Nat → Int32} {xpa : Nat → Int32} {xla : Nat → Int32} {xsi : Nat → Int32} {xre : Nat → Nat → Int32} {xcf : Nat → Int32} {xfn : Int32} {xrc : Int32} {n : Nat} {a : Int32} {b : Int32} {c : Int32} {u : Nat} {v : Nat} {P : zP}, (nI n = xn) → (n ≤ 12) → (a = nI u) → (b = nI v) → (u < n) → (v < n) → (∀ cap', (∀ i j, cap' i j = if (i = u ∧ j = v) ∨ (i = v ∧ j = u) then c else xcap i j) → P none (CW xfl xn (cap') xfs xss xbs xnx xsz xsd xct xpa xla xsi xre xcf xfn xrc)) → C0 [.inr (.inl 1), .inl a, .inl b, .inl c] ((CW xfl xn xcap xfs xss xbs xnx xsz xsd xct xpa xla xsi xre xcf xfn xrc)) P
theorem eX2_put : iX2_put kX2_put := by
  intro xfl xn xcap xfs xss xbs xnx xsz xsd xct xpa xla xsi xre xcf xfn xrc n a b c u v P h0 h1 h2 h3 h4 h5 hz
  exact ⟨xfl, xn, xcap, xfs, xss, xbs, xnx, xsz, xsd, xct, xpa, xla, xsi, xre, xcf, xfn, xrc, n, a, b, c, u, v, h0, h1, h2, h3, h4, h5, rfl, rfl, hz⟩
theorem oX2_put (l : Launch) : zOK l RX2 cX2_put rX2_put none (tX2_put, fX2, gX2, [(26, 1, 2, kX2_hasNode)], [], 0) := ⟨tX2_put_ok, fX2_ok, gX2_ok, List.forall_mem_cons.mpr ⟨⟨yX2_hasNode, cX2_hasNode, 2, (some .boolean), rX2_hasNode, zX2_hasNode l, by decide +kernel, ykX2_hasNode, lkX2_26⟩, fun _ h => absurd h List.not_mem_nil⟩, by decide +kernel, rfl⟩
set_option maxRecDepth 100000 in
set_option maxHeartbeats 4000000 in
theorem wX2_put {CX2_hasNode : zK} (HX2_hasNode : iX2_hasNode CX2_hasNode) {xfl : Int32} {xn : Int32} {xcap : Nat → Nat → Int32} {xfs : Nat → Int32} {xss : Nat → Int32} {xbs : Nat → Int32} {xnx : Int32} {xsz : Int32} {xsd : Int32} {xct : Nat → Nat → Int32} {xpa : Nat → Int32} {xla : Nat → Int32} {xsi : Nat → Int32} {xre : Nat → Nat → Int32} {xcf : Nat → Int32} {xfn : Int32} {xrc : Int32} {n : Nat} {a : Int32} {b : Int32} {c : Int32} {u : Nat} {v : Nat} {P : zP} (hn : nI n = xn) (hn2 : n ≤ 12) (ha : a = nI u) (hb : b = nI v) (hun : u < n) (hvn : v < n) (hp : ∀ cap', (∀ i j, cap' i j = if (i = u ∧ j = v) ∨ (i = v ∧ j = u) then c else xcap i j) → P none (CW xfl xn (cap') xfs xss xbs xnx xsz xsd xct xpa xla xsi xre xcf xfn xrc)) {Z : zH} (hZ : zcl (tX2_put, fX2, gX2, [(26, 1, 2, CX2_hasNode)], [], 0) P Z) : Z ((CW xfl xn xcap xfs xss xbs xnx xsz xsd xct xpa xla xsi xre xcf xfn xrc)) 0 [some (.inr (.inl 1)), some (.inl a), some (.inl b), some (.inl c)] [] := by
  subst ha hb
  have hu : u < 12 := by omega
  have hv : v < 12 := by omega
  refine hZ [] 60 _ _ _ _ ?_
  refine HX2_hasNode hn ?_
  refine bz (fun c => by rw [okN_nI (by omega) hun] at c; cases c) (fun _ => ?_)
  refine HX2_hasNode hn ?_
  refine bz (fun c => by rw [okN_nI (by omega) hvn] at c; cases c) (fun _ => ?_)
  refine And.intro (in12 hu) ?_
  rw [cl12 hu]
  refine And.intro ⟨hu, in12 hv⟩ ?_
  rw [cl12 hv]
  refine And.intro (in12 hv) ?_
  rw [cl12 hv]
  refine And.intro ⟨hv, in12 hu⟩ ?_
  rw [cl12 hu]
  refine hp _ (fun i j => ?_)
  by_cases e1 : i = v
  · subst e1
    by_cases e2 : j = u
    · subst e2; simp [zup, upd]
    · by_cases e3 : i = u
      · subst e3
        by_cases e4 : j = i
        · subst e4; simp [zup, upd]
        · simp [zup, upd, e4]
      · simp [zup, upd, e2, e3]
  · by_cases e2 : i = u
    · subst e2
      by_cases e3 : j = v
      · subst e3; simp [zup, upd, e1]
      · simp [zup, upd, e1, e3]
    · simp [zup, e1, e2]
theorem zX2_put (l : Launch) : zMet l yX2_put cX2_put 4 none rX2_put kX2_put := zMet_of (by decide) ⟨rfl, rfl⟩ (oX2_put l) (fun as0 st0 P h => by
  obtain ⟨xfl, xn, xcap, xfs, xss, xbs, xnx, xsz, xsd, xct, xpa, xla, xsi, xre, xcf, xfn, xrc, n, a, b, c, u, v, h0, h1, h2, h3, h4, h5, rfl, rfl, hz⟩ := h
  exact ⟨Nat.le_of_ble_eq_true rfl, fun Z hZ => wX2_put eX2_hasNode h0 h1 h2 h3 h4 h5 hz hZ⟩)

/-- allNodes() -/
def kX2_allNodes : zK := fun as0 st0 P => ∃ xfl : Int32, ∃ xn : Int32, ∃ xcap : Nat → Nat → Int32, ∃ xfs : Nat → Int32, ∃ xss : Nat → Int32, ∃ xbs : Nat → Int32, ∃ xnx : Int32, ∃ xsz : Int32, ∃ xsd : Int32, ∃ xct : Nat → Nat → Int32, ∃ xpa : Nat → Int32, ∃ xla : Nat → Int32, ∃ xsi : Nat → Int32, ∃ xre : Nat → Nat → Int32, ∃ xcf : Nat → Int32, ∃ xfn : Int32, ∃ xrc : Int32, ∃ n : Nat, (nI n = xn) ∧ (n ≤ 12) ∧ as0 = [.inr (.inl 1)] ∧ st0 = (CW xfl xn xcap xfs xss xbs xnx xsz xsd xct xpa xla xsi xre xcf xfn xrc) ∧ (P (some (.inl (nI (2 ^ n - 1)))) (CW xfl xn xcap xfs xss xbs xnx xsz xsd xct xpa xla xsi xre xcf xfn xrc))
def iX2_allNodes (C0 : zK) : Prop := ∀ {xfl : Int32} {xn : Int32} {xcap : Nat → Nat → Int32} {xfs : Nat → Int32} {xss : Nat → Int32} {xbs : Nat → Int32} {xnx : Int32} {xsz : Int32} {xsd : Int32} {xct : Nat → Nat → Int32} {xpa : Nat → Int32} {xla : Nat → Int32} {xsi : Nat → Int32} {xre : Nat → Nat → Int32} {xcf : Nat → Int32} {xfn : Int32} {xrc : Int32} {n : Nat} {P : zP}, (nI n = xn) → (n ≤ 12) → (P (some (.inl (nI (2 ^ n - 1)))) (CW xfl xn xcap xfs xss xbs xnx xsz xsd xct xpa xla xsi xre xcf xfn xrc)) → C0 [.inr (.inl 1)] ((CW xfl xn xcap xfs xss xbs xnx xsz xsd xct xpa xla xsi xre xcf xfn xrc)) P
theorem eX2_allNodes : iX2_allNodes kX2_allNodes := by
  intro xfl xn xcap xfs xss xbs xnx xsz xsd xct xpa xla xsi xre xcf xfn xrc n P h0 h1 hz
  exact ⟨xfl, xn, xcap, xfs, xss, xbs, xnx, xsz, xsd, xct, xpa, xla, xsi, xre, xcf, xfn, xrc, n, h0, h1, rfl, rfl, hz⟩
theorem oX2_allNodes (l : Launch) : zOK l RX2 cX2_allNodes rX2_allNodes (some .int) (tX2_allNodes, fX2, gX2, [], [], 1) := ⟨tX2_allNodes_ok, fX2_ok, gX2_ok, fun _ h => absurd h List.not_mem_nil, by decide +kernel, rfl⟩
set_option maxRecDepth 100000 in
set_option maxHeartbeats 4000000 in
theorem wX2_allNodes {xfl : Int32} {xn : Int32} {xcap : Nat → Nat → Int32} {xfs : Nat → Int32} {xss : Nat → Int32} {xbs : Nat → Int32} {xnx : Int32} {xsz : Int32} {xsd : Int32} {xct : Nat → Nat → Int32} {xpa : Nat → Int32} {xla : Nat → Int32} {xsi : Nat → Int32} {xre : Nat → Nat → Int32} {xcf : Nat → Int32} {xfn : Int32} {xrc : Int32} {n : Nat} {P : zP} (hn : nI n = xn) (hn2 : n ≤ 12) (hp : P (some (.inl (nI (2 ^ n - 1)))) (CW xfl xn xcap xfs xss xbs xnx xsz xsd xct xpa xla xsi xre xcf xfn xrc)) {Z : zH} (hZ : zcl (tX2_allNodes, fX2, gX2, [], [], 1) P Z) : Z ((CW xfl xn xcap xfs xss xbs xnx xsz xsd xct xpa xla xsi xre xcf xfn xrc)) 0 [some (.inr (.inl 1))] [] := by
  subst hn
  rw [← nI_full hn2] at hp
  exact hZ [] 40 _ _ _ _ hp
theorem zX2_allNodes (l : Launch) : zMet l yX2_allNodes cX2_allNodes 1 (some .int) rX2_allNodes kX2_allNodes := zMet_of (by decide) ⟨rfl, rfl⟩ (oX2_allNodes l) (fun as0 st0 P h => by
  obtain ⟨xfl, xn, xcap, xfs, xss, xbs, xnx, xsz, xsd, xct, xpa, xla, xsi, xre, xcf, xfn, xrc, n, h0, h1, rfl, rfl, hz⟩ := h
  exact ⟨Nat.le_of_ble_eq_true rfl, fun Z hZ => wX2_allNodes h0 h1 hz hZ⟩)

/-- isCut(S) -/
def kX2_isCut : zK := fun as0 st0 P => ∃ xfl : Int32, ∃ xn : Int32, ∃ xcap : Nat → Nat → Int32, ∃ xfs : Nat → Int32, ∃ xss : Nat → Int32, ∃ xbs : Nat → Int32, ∃ xnx : Int32, ∃ xsz : Int32, ∃ xsd : Int32, ∃ xct : Nat → Nat → Int32, ∃ xpa : Nat → Int32, ∃ xla : Nat → Int32, ∃ xsi : Nat → Int32, ∃ xre : Nat → Nat → Int32, ∃ xcf : Nat → Int32, ∃ xfn : Int32, ∃ xrc : Int32, ∃ a : Int32, ∃ n : Nat, (nI n = xn) ∧ (n ≤ 12) ∧ as0 = [.inr (.inl 1), .inl a] ∧ st0 = (CW xfl xn xcap xfs xss xbs xnx xsz xsd xct xpa xla xsi xre xcf xfn xrc) ∧ (P (some (.inl (b2i (okC n a)))) (CW xfl xn xcap xfs xss xbs xnx xsz xsd xct xpa xla xsi xre xcf xfn xrc))
def iX2_isCut (C0 : zK) : Prop := ∀ {xfl : Int32} {xn : Int32} {xcap : Nat → Nat → Int32} {xfs : Nat → Int32} {xss : Nat → Int32} {xbs : Nat → Int32} {xnx : Int32} {xsz : Int32} {xsd : Int32} {xct : Nat → Nat → Int32} {xpa : Nat → Int32} {xla : Nat → Int32} {xsi : Nat → Int32} {xre : Nat → Nat → Int32} {xcf : Nat → Int32} {xfn : Int32} {xrc : Int32} {a : Int32} {n : Nat} {P : zP}, (nI n = xn) → (n ≤ 12) → (P (some (.inl (b2i (okC n a)))) (CW xfl xn xcap xfs xss xbs xnx xsz xsd xct xpa xla xsi xre xcf xfn xrc)) → C0 [.inr (.inl 1), .inl a] ((CW xfl xn xcap xfs xss xbs xnx xsz xsd xct xpa xla xsi xre xcf xfn xrc)) P
theorem eX2_isCut : iX2_isCut kX2_isCut := by
  intro xfl xn xcap xfs xss xbs xnx xsz xsd xct xpa xla xsi xre xcf xfn xrc a n P h0 h1 hz
  exact ⟨xfl, xn, xcap, xfs, xss, xbs, xnx, xsz, xsd, xct, xpa, xla, xsi, xre, xcf, xfn, xrc, a, n, h0, h1, rfl, rfl, hz⟩
theorem oX2_isCut (l : Launch) : zOK l RX2 cX2_isCut rX2_isCut (some .boolean) (tX2_isCut, fX2, gX2, [(30, 0, 2, kX2_allNodes)], [], 2) := ⟨tX2_isCut_ok, fX2_ok, gX2_ok, List.forall_mem_cons.mpr ⟨⟨yX2_allNodes, cX2_allNodes, 1, (some .int), rX2_allNodes, zX2_allNodes l, by decide +kernel, ykX2_allNodes, lkX2_30⟩, fun _ h => absurd h List.not_mem_nil⟩, by decide +kernel, rfl⟩
set_option maxRecDepth 100000 in
set_option maxHeartbeats 4000000 in
theorem wX2_isCut {CX2_allNodes : zK} (HX2_allNodes : iX2_allNodes CX2_allNodes) {xfl : Int32} {xn : Int32} {xcap : Nat → Nat → Int32} {xfs : Nat → Int32} {xss : Nat → Int32} {xbs : Nat → Int32} {xnx : Int32} {xsz : Int32} {xsd : Int32} {xct : Nat → Nat → Int32} {xpa : Nat → Int32} {xla : Nat → Int32} {xsi : Nat → Int32} {xre : Nat → Nat → Int32} {xcf : Nat → Int32} {xfn : Int32} {xrc : Int32} {a : Int32} {n : Nat} {P : zP} (hn : nI n = xn) (hn2 : n ≤ 12) (hp : P (some (.inl (b2i (okC n a)))) (CW xfl xn xcap xfs xss xbs xnx xsz xsd xct xpa xla xsi xre xcf xfn xrc)) {Z : zH} (hZ : zcl (tX2_isCut, fX2, gX2, [(30, 0, 2, CX2_allNodes)], [], 2) P Z) : Z ((CW xfl xn xcap xfs xss xbs xnx xsz xsd xct xpa xla xsi xre xcf xfn xrc)) 0 [some (.inr (.inl 1)), some (.inl a)] [] := by
  refine hZ [] 40 _ _ _ _ ?_
  refine And.intro (fun c => ?_) (fun c => ?_)
  · have e : okC n a = false := by rw [okC, decide_eq_false_iff_not]; exact fun q => Int32.not_le.mpr q.1 c
    rw [e] at hp
    exact And.intro (Or.inl rfl) hp
  · refine HX2_allNodes hn hn2 ?_
    refine And.intro (fun c2 => ?_) (fun c2 => ?_)
    · have e : okC n a = false := by rw [okC, decide_eq_false_iff_not]; exact fun q => Int32.not_le.mpr q.2 c2
      rw [e] at hp
      exact And.intro (Or.inl rfl) hp
    · have e : okC n a = true := by rw [okC, decide_eq_true_eq]; exact ⟨Int32.not_le.mp c, Int32.not_le.mp c2⟩
      rw [e] at hp
      exact And.intro (Or.inr rfl) hp
theorem zX2_isCut (l : Launch) : zMet l yX2_isCut cX2_isCut 2 (some .boolean) rX2_isCut kX2_isCut := zMet_of (by decide) ⟨rfl, rfl⟩ (oX2_isCut l) (fun as0 st0 P h => by
  obtain ⟨xfl, xn, xcap, xfs, xss, xbs, xnx, xsz, xsd, xct, xpa, xla, xsi, xre, xcf, xfn, xrc, a, n, h0, h1, rfl, rfl, hz⟩ := h
  exact ⟨Nat.le_of_ble_eq_true rfl, fun Z hZ => wX2_isCut eX2_allNodes h0 h1 hz hZ⟩)

/-- edges() -/
def kX2_edges : zK := fun as0 st0 P => ∃ xfl : Int32, ∃ xn : Int32, ∃ xcap : Nat → Nat → Int32, ∃ xfs : Nat → Int32, ∃ xss : Nat → Int32, ∃ xbs : Nat → Int32, ∃ xnx : Int32, ∃ xsz : Int32, ∃ xsd : Int32, ∃ xct : Nat → Nat → Int32, ∃ xpa : Nat → Int32, ∃ xla : Nat → Int32, ∃ xsi : Nat → Int32, ∃ xre : Nat → Nat → Int32, ∃ xcf : Nat → Int32, ∃ xfn : Int32, ∃ xrc : Int32, ∃ n : Nat, ∃ K : Nat → Nat → Nat, (cG xn xcap n K) ∧ as0 = [.inr (.inl 1)] ∧ st0 = (CW xfl xn xcap xfs xss xbs xnx xsz xsd xct xpa xla xsi xre xcf xfn xrc) ∧ (P (some (.inl (nI (edg n K)))) (CW xfl xn xcap xfs xss xbs xnx xsz xsd xct xpa xla xsi xre xcf xfn xrc))
def iX2_edges (C0 : zK) : Prop := ∀ {xfl : Int32} {xn : Int32} {xcap : Nat → Nat → Int32} {xfs : Nat → Int32} {xss : Nat → Int32} {xbs : Nat → Int32} {xnx : Int32} {xsz : Int32} {xsd : Int32} {xct : Nat → Nat → Int32} {xpa : Nat → Int32} {xla : Nat → Int32} {xsi : Nat → Int32} {xre : Nat → Nat → Int32} {xcf : Nat → Int32} {xfn : Int32} {xrc : Int32} {n : Nat} {K : Nat → Nat → Nat} {P : zP}, (cG xn xcap n K) → (P (some (.inl (nI (edg n K)))) (CW xfl xn xcap xfs xss xbs xnx xsz xsd xct xpa xla xsi xre xcf xfn xrc)) → C0 [.inr (.inl 1)] ((CW xfl xn xcap xfs xss xbs xnx xsz xsd xct xpa xla xsi xre xcf xfn xrc)) P
theorem eX2_edges : iX2_edges kX2_edges := by
  intro xfl xn xcap xfs xss xbs xnx xsz xsd xct xpa xla xsi xre xcf xfn xrc n K P h0 hz
  exact ⟨xfl, xn, xcap, xfs, xss, xbs, xnx, xsz, xsd, xct, xpa, xla, xsi, xre, xcf, xfn, xrc, n, K, h0, rfl, rfl, hz⟩
theorem oX2_edges (l : Launch) : zOK l RX2 cX2_edges rX2_edges (some .int) (tX2_edges, fX2, gX2, [], [], 1) := ⟨tX2_edges_ok, fX2_ok, gX2_ok, fun _ h => absurd h List.not_mem_nil, by decide +kernel, rfl⟩
set_option maxRecDepth 100000 in
set_option maxHeartbeats 4000000 in
theorem wX2_edges {xfl : Int32} {xn : Int32} {xcap : Nat → Nat → Int32} {xfs : Nat → Int32} {xss : Nat → Int32} {xbs : Nat → Int32} {xnx : Int32} {xsz : Int32} {xsd : Int32} {xct : Nat → Nat → Int32} {xpa : Nat → Int32} {xla : Nat → Int32} {xsi : Nat → Int32} {xre : Nat → Nat → Int32} {xcf : Nat → Int32} {xfn : Int32} {xrc : Int32} {n : Nat} {K : Nat → Nat → Nat} {P : zP} (hG : cG xn xcap n K) (hp : P (some (.inl (nI (edg n K)))) (CW xfl xn xcap xfs xss xbs xnx xsz xsd xct xpa xla xsi xre xcf xfn xrc)) {Z : zH} (hZ : zcl (tX2_edges, fX2, gX2, [], [], 1) P Z) : Z ((CW xfl xn xcap xfs xss xbs xnx xsz xsd xct xpa xla xsi xre xcf xfn xrc)) 0 [some (.inr (.inl 1)), none, none, none] [] := by
  obtain ⟨rfl, hn1, hn2, hcap, hK⟩ := hG
  have outer : ∀ u, u ≤ n → ∀ o, Z (CW xfl (nI n) xcap xfs xss xbs xnx xsz xsd xct xpa xla xsi xre xcf xfn xrc) 4 [some (.inr (.inl 1)), some (.inl (nI (sm (fun u => sm (fun v => ea K u v) n) u))), some (.inl (nI u)), o] [] := by
    refine dn (Q := fun u => ∀ o, Z (CW xfl (nI n) xcap xfs xss xbs xnx xsz xsd xct xpa xla xsi xre xcf xfn xrc) 4 [some (.inr (.inl 1)), some (.inl (nI (sm (fun u => sm (fun v => ea K u v) n) u))), some (.inl (nI u)), o] []) ?_ ?_
    · intro o
      refine hZ [] 40 _ _ _ _ ?_
      exact pk_le n n (fun _ => hp) (fun c => absurd c (by omega))
    · intro u hu ih o
      have inner : ∀ v, v ≤ n → u < v → Z (CW xfl (nI n) xcap xfs xss xbs xnx xsz xsd xct xpa xla xsi xre xcf xfn xrc) 16 [some (.inr (.inl 1)), some (.inl (nI (sm (fun u => sm (fun v => ea K u v) n) u + sm (fun v => ea K u v) v))), some (.inl (nI u)), some (.inl (nI v))] [] := by
        refine dn (Q := fun v => u < v → Z (CW xfl (nI n) xcap xfs xss xbs xnx xsz xsd xct xpa xla xsi xre xcf xfn xrc) 16 [some (.inr (.inl 1)), some (.inl (nI (sm (fun u => sm (fun v => ea K u v) n) u + sm (fun v => ea K u v) v))), some (.inl (nI u)), some (.inl (nI v))] []) ?_ ?_
        · intro _
          refine hZ [4] 40 _ _ _ _ ?_
          refine pk_le n n (fun _ => ?_) (fun c => absurd c (by omega))
          have h9 := ih (some (.inl (nI n)))
          rw [nI_succ] at h9
          exact h9
        · intro v hv ih2 huv
          refine hZ [16] 40 _ _ _ _ ?_
          refine pk_le n v (fun c => absurd c (by omega)) (fun _ => ?_)
          refine And.intro (in12 (by omega)) ?_
          rw [cl12 (by omega)]
          refine And.intro ⟨by omega, in12 (by omega)⟩ ?_
          rw [cl12 (by omega), hcap u v (by omega) (by omega)]
          have h9 := ih2 (by omega)
          have hk := hK.1 u v
          refine pk_le (K u v) 0 (fun c => ?_) (fun c => ?_)
          · have e : ea K u v = 0 := by simp [ea, show ¬ 0 < K u v by omega]
            rw [sm, e, Nat.add_zero, nI_succ] at h9
            exact h9
          · have e : ea K u v = 1 := by simp [ea, huv, c]
            rw [sm, e, ← Nat.add_assoc, nI_succ, nI_succ] at h9
            exact h9
      refine hZ [16] 40 _ _ _ _ ?_
      refine pk_le n u (fun c => absurd c (by omega)) (fun _ => ?_)
      have h9 := inner (u + 1) (by omega) (by omega)
      rw [sm_zero (n := u + 1) (fun i hi => by simp [ea, show ¬ u < i by omega]), Nat.add_zero, nI_succ] at h9
      exact h9
  refine hZ [4] 40 _ _ _ _ ?_
  exact outer 0 (by omega) none
theorem zX2_edges (l : Launch) : zMet l yX2_edges cX2_edges 4 (some .int) rX2_edges kX2_edges := zMet_of (by decide) ⟨rfl, rfl⟩ (oX2_edges l) (fun as0 st0 P h => by
  obtain ⟨xfl, xn, xcap, xfs, xss, xbs, xnx, xsz, xsd, xct, xpa, xla, xsi, xre, xcf, xfn, xrc, n, K, h0, rfl, rfl, hz⟩ := h
  exact ⟨Nat.le_of_ble_eq_true rfl, fun Z hZ => wX2_edges h0 hz hZ⟩)

/-- weightOf(S) -/
def kX2_weightOf : zK := fun as0 st0 P => ∃ xfl : Int32, ∃ xn : Int32, ∃ xcap : Nat → Nat → Int32, ∃ xfs : Nat → Int32, ∃ xss : Nat → Int32, ∃ xbs : Nat → Int32, ∃ xnx : Int32, ∃ xsz : Int32, ∃ xsd : Int32, ∃ xct : Nat → Nat → Int32, ∃ xpa : Nat → Int32, ∃ xla : Nat → Int32, ∃ xsi : Nat → Int32, ∃ xre : Nat → Nat → Int32, ∃ xcf : Nat → Int32, ∃ xfn : Int32, ∃ xrc : Int32, ∃ n : Nat, ∃ K : Nat → Nat → Nat, ∃ S : Nat, ∃ a : Int32, (cG xn xcap n K) ∧ (a = nI S) ∧ (S < 2 ^ 31) ∧ as0 = [.inr (.inl 1), .inl a] ∧ st0 = (CW xfl xn xcap xfs xss xbs xnx xsz xsd xct xpa xla xsi xre xcf xfn xrc) ∧ (P (some (.inl (nI (wt n K S)))) (CW xfl xn xcap xfs xss xbs xnx xsz xsd xct xpa xla xsi xre xcf xfn xrc))
def iX2_weightOf (C0 : zK) : Prop := ∀ {xfl : Int32} {xn : Int32} {xcap : Nat → Nat → Int32} {xfs : Nat → Int32} {xss : Nat → Int32} {xbs : Nat → Int32} {xnx : Int32} {xsz : Int32} {xsd : Int32} {xct : Nat → Nat → Int32} {xpa : Nat → Int32} {xla : Nat → Int32} {xsi : Nat → Int32} {xre : Nat → Nat → Int32} {xcf : Nat → Int32} {xfn : Int32} {xrc : Int32} {n : Nat} {K : Nat → Nat → Nat} {S : Nat} {a : Int32} {P : zP}, (cG xn xcap n K) → (a = nI S) → (S < 2 ^ 31) → (P (some (.inl (nI (wt n K S)))) (CW xfl xn xcap xfs xss xbs xnx xsz xsd xct xpa xla xsi xre xcf xfn xrc)) → C0 [.inr (.inl 1), .inl a] ((CW xfl xn xcap xfs xss xbs xnx xsz xsd xct xpa xla xsi xre xcf xfn xrc)) P
theorem eX2_weightOf : iX2_weightOf kX2_weightOf := by
  intro xfl xn xcap xfs xss xbs xnx xsz xsd xct xpa xla xsi xre xcf xfn xrc n K S a P h0 h1 h2 hz
  exact ⟨xfl, xn, xcap, xfs, xss, xbs, xnx, xsz, xsd, xct, xpa, xla, xsi, xre, xcf, xfn, xrc, n, K, S, a, h0, h1, h2, rfl, rfl, hz⟩
theorem oX2_weightOf (l : Launch) : zOK l RX2 cX2_weightOf rX2_weightOf (some .int) (tX2_weightOf, fX2, gX2, [(34, 3, 101, kX4_separates)], [], 1) := ⟨tX2_weightOf_ok, fX2_ok, gX2_ok, List.forall_mem_cons.mpr ⟨⟨yX4_separates, cX4_separates, 3, (some .boolean), rX4_separates, zX4_separates l, by decide +kernel, ykX4_separates, lkX2_34⟩, fun _ h => absurd h List.not_mem_nil⟩, by decide +kernel, rfl⟩
set_option maxRecDepth 100000 in
set_option maxHeartbeats 4000000 in
theorem wX2_weightOf {CX4_separates : zK} (HX4_separates : iX4_separates CX4_separates) {xfl : Int32} {xn : Int32} {xcap : Nat → Nat → Int32} {xfs : Nat → Int32} {xss : Nat → Int32} {xbs : Nat → Int32} {xnx : Int32} {xsz : Int32} {xsd : Int32} {xct : Nat → Nat → Int32} {xpa : Nat → Int32} {xla : Nat → Int32} {xsi : Nat → Int32} {xre : Nat → Nat → Int32} {xcf : Nat → Int32} {xfn : Int32} {xrc : Int32} {n : Nat} {K : Nat → Nat → Nat} {S : Nat} {a : Int32} {P : zP} (hG : cG xn xcap n K) (ha : a = nI S) (hS : S < 2 ^ 31) (hp : P (some (.inl (nI (wt n K S)))) (CW xfl xn xcap xfs xss xbs xnx xsz xsd xct xpa xla xsi xre xcf xfn xrc)) {Z : zH} (hZ : zcl (tX2_weightOf, fX2, gX2, [(34, 3, 101, CX4_separates)], [], 1) P Z) : Z ((CW xfl xn xcap xfs xss xbs xnx xsz xsd xct xpa xla xsi xre xcf xfn xrc)) 0 [some (.inr (.inl 1)), some (.inl a), none, none, none] [] := by
  obtain ⟨rfl, hn1, hn2, hcap, hK⟩ := hG
  rw [← wt_eq hK.2.1] at hp
  have outer : ∀ u, u ≤ n → ∀ o, Z (CW xfl (nI n) xcap xfs xss xbs xnx xsz xsd xct xpa xla xsi xre xcf xfn xrc) 4 [some (.inr (.inl 1)), some (.inl a), some (.inl (nI (sm (fun u => sm (fun v => wb K S u v) n) u))), some (.inl (nI u)), o] [] := by
    refine dn (Q := fun u => ∀ o, Z (CW xfl (nI n) xcap xfs xss xbs xnx xsz xsd xct xpa xla xsi xre xcf xfn xrc) 4 [some (.inr (.inl 1)), some (.inl a), some (.inl (nI (sm (fun u => sm (fun v => wb K S u v) n) u))), some (.inl (nI u)), o] []) ?_ ?_
    · intro o
      refine hZ [] 40 _ _ _ _ ?_
      exact pk_le n n (fun _ => hp) (fun c => absurd c (by omega))
    · intro u hu ih o
      have inner : ∀ v, v ≤ n → u < v → Z (CW xfl (nI n) xcap xfs xss xbs xnx xsz xsd xct xpa xla xsi xre xcf xfn xrc) 17 [some (.inr (.inl 1)), some (.inl a), some (.inl (nI (sm (fun u => sm (fun v => wb K S u v) n) u + sm (fun v => wb K S u v) v))), some (.inl (nI u)), some (.inl (nI v))] [] := by
        refine dn (Q := fun v => u < v → Z (CW xfl (nI n) xcap xfs xss xbs xnx xsz xsd xct xpa xla xsi xre xcf xfn xrc) 17 [some (.inr (.inl 1)), some (.inl a), some (.inl (nI (sm (fun u => sm (fun v => wb K S u v) n) u + sm (fun v => wb K S u v) v))), some (.inl (nI u)), some (.inl (nI v))] []) ?_ ?_
        · intro _
          refine hZ [4] 40 _ _ _ _ ?_
          refine pk_le n n (fun _ => ?_) (fun c => absurd c (by omega))
          have h9 := ih (some (.inl (nI n)))
          rw [nI_succ] at h9
          exact h9
        · intro v hv ih2 huv
          refine hZ [17] 60 _ _ _ _ ?_
          refine pk_le n v (fun c => absurd c (by omega)) (fun _ => ?_)
          refine HX4_separates ha rfl rfl hS (by omega) (by omega) ?_
          have h9 := ih2 (by omega)
          refine bz (fun c => ?_) (fun c => ?_)
          · have e : wb K S u v = 0 := by simp [wb, c]
            rw [sm, e, Nat.add_zero, nI_succ] at h9
            exact h9
          · refine And.intro (in12 (by omega)) ?_
            rw [cl12 (by omega)]
            refine And.intro ⟨by omega, in12 (by omega)⟩ ?_
            rw [cl12 (by omega), hcap u v (by omega) (by omega)]
            have e : wb K S u v = K u v := by simp [wb, c, huv]
            rw [sm, e, ← Nat.add_assoc, ← nI_add, nI_succ] at h9
            exact h9
      refine hZ [17] 40 _ _ _ _ ?_
      refine pk_le n u (fun c => absurd c (by omega)) (fun _ => ?_)
      have h9 := inner (u + 1) (by omega) (by omega)
      rw [sm_zero (n := u + 1) (fun i hi => by simp [wb, show ¬ u < i by omega]), Nat.add_zero, nI_succ] at h9
      exact h9
  refine hZ [4] 40 _ _ _ _ ?_
  exact outer 0 (by omega) none
theorem zX2_weightOf (l : Launch) : zMet l yX2_weightOf cX2_weightOf 5 (some .int) rX2_weightOf kX2_weightOf := zMet_of (by decide) ⟨rfl, rfl⟩ (oX2_weightOf l) (fun as0 st0 P h => by
  obtain ⟨xfl, xn, xcap, xfs, xss, xbs, xnx, xsz, xsd, xct, xpa, xla, xsi, xre, xcf, xfn, xrc, n, K, S, a, h0, h1, h2, rfl, rfl, hz⟩ := h
  exact ⟨Nat.le_of_ble_eq_true rfl, fun Z hZ => wX2_weightOf eX4_separates h0 h1 h2 hz hZ⟩)

