/-! NearCutFinder: one flow. -/
/-- the rest, as the component holds it -/
def fR (n : Nat) (xre : Nat → Nat → Int32) (r : Nat → Nat → Nat) : Prop := ∀ i j, i < n → j < n → xre i j = nI (r i j)
/-- isBehind(v, s) of two nodes -/
def kX3_isBehind : zK := fun as0 st0 P => ∃ xfl : Int32, ∃ xn : Int32, ∃ xcap : Nat → Nat → Int32, ∃ xfs : Nat → Int32, ∃ xss : Nat → Int32, ∃ xbs : Nat → Int32, ∃ xnx : Int32, ∃ xsz : Int32, ∃ xsd : Int32, ∃ xct : Nat → Nat → Int32, ∃ xpa : Nat → Int32, ∃ xla : Nat → Int32, ∃ xsi : Nat → Int32, ∃ xre : Nat → Nat → Int32, ∃ xcf : Nat → Int32, ∃ xfn : Int32, ∃ xrc : Int32, ∃ n : Nat, ∃ v : Nat, ∃ s : Nat, ∃ a : Int32, ∃ b : Int32, (nI n = xfn) ∧ (n ≤ 12) ∧ (a = nI v) ∧ (b = nI s) ∧ (v < n) ∧ (s < n) ∧ (v ≠ s → ∃ c, c < n ∧ xcf v = nI c) ∧ as0 = [.inr (.inl 8), .inl a, .inl b] ∧ st0 = (CW xfl xn xcap xfs xss xbs xnx xsz xsd xct xpa xla xsi xre xcf xfn xrc) ∧ (P (some (.inl (b2i (decide (v ≠ s))))) (CW xfl xn xcap xfs xss xbs xnx xsz xsd xct xpa xla xsi xre xcf xfn xrc))
def iX3_isBehind (C0 : zK) : Prop := ∀ {xfl : Int32} {xn : Int32} {xcap : Nat → Nat → Int32} {xfs : Nat → Int32} {xss : Nat → Int32} {xbs : Nat → Int32} {xnx : Int32} {xsz : Int32} {xsd : Int32} {xct : Nat → Nat → Int32} {xpa : Nat → Int32} {xla : Nat → Int32} {xsi : Nat → Int32} {xre : Nat → Nat → Int32} {xcf : Nat → Int32} {xfn : Int32} {xrc : Int32} {n : Nat} {v : Nat} {s : Nat} {a : Int32} {b : Int32} {P : zP}, (nI n = xfn) → (n ≤ 12) → (a = nI v) → (b = nI s) → (v < n) → (s < n) → (v ≠ s → ∃ c, c < n ∧ xcf v = nI c) → (P (some (.inl (b2i (decide (v ≠ s))))) (CW xfl xn xcap xfs xss xbs xnx xsz xsd xct xpa xla xsi xre xcf xfn xrc)) → C0 [.inr (.inl 8), .inl a, .inl b] ((CW xfl xn xcap xfs xss xbs xnx xsz xsd xct xpa xla xsi xre xcf xfn xrc)) P
theorem eX3_isBehind : iX3_isBehind kX3_isBehind := by
  intro xfl xn xcap xfs xss xbs xnx xsz xsd xct xpa xla xsi xre xcf xfn xrc n v s a b P h0 h1 h2 h3 h4 h5 h6 hz
  exact ⟨xfl, xn, xcap, xfs, xss, xbs, xnx, xsz, xsd, xct, xpa, xla, xsi, xre, xcf, xfn, xrc, n, v, s, a, b, h0, h1, h2, h3, h4, h5, h6, rfl, rfl, hz⟩
theorem oX3_isBehind (l : Launch) : zOK l RX3 cX3_isBehind rX3_isBehind (some .boolean) (tX3_isBehind, fX3, gX3, [], [], 2) := ⟨tX3_isBehind_ok, fX3_ok, gX3_ok, fun _ h => absurd h List.not_mem_nil, by decide +kernel, rfl⟩
set_option maxRecDepth 100000 in
set_option maxHeartbeats 4000000 in
theorem wX3_isBehind {xfl : Int32} {xn : Int32} {xcap : Nat → Nat → Int32} {xfs : Nat → Int32} {xss : Nat → Int32} {xbs : Nat → Int32} {xnx : Int32} {xsz : Int32} {xsd : Int32} {xct : Nat → Nat → Int32} {xpa : Nat → Int32} {xla : Nat → Int32} {xsi : Nat → Int32} {xre : Nat → Nat → Int32} {xcf : Nat → Int32} {xfn : Int32} {xrc : Int32} {n : Nat} {v : Nat} {s : Nat} {a : Int32} {b : Int32} {P : zP} (hfn : nI n = xfn) (hn2 : n ≤ 12) (ha : a = nI v) (hb : b = nI s) (hv : v < n) (hs : s < n) (hcf : v ≠ s → ∃ c, c < n ∧ xcf v = nI c) (hp : P (some (.inl (b2i (decide (v ≠ s))))) (CW xfl xn xcap xfs xss xbs xnx xsz xsd xct xpa xla xsi xre xcf xfn xrc)) {Z : zH} (hZ : zcl (tX3_isBehind, fX3, gX3, [], [], 2) P Z) : Z ((CW xfl xn xcap xfs xss xbs xnx xsz xsd xct xpa xla xsi xre xcf xfn xrc)) 0 [some (.inr (.inl 8)), some (.inl a), some (.inl b)] [] := by
  subst ha hb hfn
  refine hZ [] 40 _ _ _ _ ?_
  refine pk_eq v s (fun c => ?_) (fun c => ?_)
  · refine And.intro (Or.inl rfl) ?_
    rw [decide_eq_false (fun q => q c)] at hp
    exact hp
  · obtain ⟨w, hw, e⟩ := hcf c
    refine pk_lt v 0 (fun c => absurd c (by omega)) (fun _ => ?_)
    refine pk_lt v n (fun _ => ?_) (fun c => absurd c (by omega))
    refine And.intro (in12 (by omega)) ?_
    rw [cl12 (by omega), e]
    refine pk_lt w 0 (fun c => absurd c (by omega)) (fun _ => ?_)
    refine And.intro (in12 (by omega)) ?_
    rw [cl12 (by omega), e]
    refine pk_le n w (fun c => absurd c (by omega)) (fun _ => ?_)
    refine And.intro (Or.inr rfl) ?_
    rw [decide_eq_true c] at hp
    exact hp
theorem zX3_isBehind (l : Launch) : zMet l yX3_isBehind cX3_isBehind 3 (some .boolean) rX3_isBehind kX3_isBehind := zMet_of (by decide) ⟨rfl, rfl⟩ (oX3_isBehind l) (fun as0 st0 P h => by
  obtain ⟨xfl, xn, xcap, xfs, xss, xbs, xnx, xsz, xsd, xct, xpa, xla, xsi, xre, xcf, xfn, xrc, n, v, s, a, b, h0, h1, h2, h3, h4, h5, h6, rfl, rfl, hz⟩ := h
  exact ⟨Nat.le_of_ble_eq_true rfl, fun Z hZ => wX3_isBehind h0 h1 h2 h3 h4 h5 h6 hz hZ⟩)

/-- narrowest(s, t) -/
def kX3_narrowest : zK := fun as0 st0 P => ∃ xfl : Int32, ∃ xn : Int32, ∃ xcap : Nat → Nat → Int32, ∃ xfs : Nat → Int32, ∃ xss : Nat → Int32, ∃ xbs : Nat → Int32, ∃ xnx : Int32, ∃ xsz : Int32, ∃ xsd : Int32, ∃ xct : Nat → Nat → Int32, ∃ xpa : Nat → Int32, ∃ xla : Nat → Int32, ∃ xsi : Nat → Int32, ∃ xre : Nat → Nat → Int32, ∃ xcf : Nat → Int32, ∃ xfn : Int32, ∃ xrc : Int32, ∃ n : Nat, ∃ r : Nat → Nat → Nat, ∃ cf : Nat → Nat, ∃ R : Nat, ∃ s : Nat, ∃ t : Nat, ∃ k : Nat, ∃ a : Int32, ∃ b : Int32, (nI n = xfn) ∧ (n ≤ 12) ∧ (fR n xre r) ∧ (∀ i j, r i j < 2 ^ 31) ∧ (a = nI s) ∧ (b = nI t) ∧ (s < n) ∧ (k < n) ∧ (pth n r xcf cf R s k t) ∧ (t < n) ∧ as0 = [.inr (.inl 8), .inl a, .inl b] ∧ st0 = (CW xfl xn xcap xfs xss xbs xnx xsz xsd xct xpa xla xsi xre xcf xfn xrc) ∧ (P (some (.inl (nI (mn r cf k t 143856)))) (CW xfl xn xcap xfs xss xbs xnx xsz xsd xct xpa xla xsi xre xcf xfn xrc))
def iX3_narrowest (C0 : zK) : Prop := ∀ {xfl : Int32} {xn : Int32} {xcap : Nat → Nat → Int32} {xfs : Nat → Int32} {xss : Nat → Int32} {xbs : Nat → Int32} {xnx : Int32} {xsz : Int32} {xsd : Int32} {xct : Nat → Nat → Int32} {xpa : Nat → Int32} {xla : Nat → Int32} {xsi : Nat → Int32} {xre : Nat → Nat → Int32} {xcf : Nat → Int32} {xfn : Int32} {xrc : Int32} {n : Nat} {r : Nat → Nat → Nat} {cf : Nat → Nat} {R : Nat} {s : Nat} {t : Nat} {k : Nat} {a : Int32} {b : Int32} {P : zP}, (nI n = xfn) → (n ≤ 12) → (fR n xre r) → (∀ i j, r i j < 2 ^ 31) → (a = nI s) → (b = nI t) → (s < n) → (k < n) → (pth n r xcf cf R s k t) → (t < n) → (P (some (.inl (nI (mn r cf k t 143856)))) (CW xfl xn xcap xfs xss xbs xnx xsz xsd xct xpa xla xsi xre xcf xfn xrc)) → C0 [.inr (.inl 8), .inl a, .inl b] ((CW xfl xn xcap xfs xss xbs xnx xsz xsd xct xpa xla xsi xre xcf xfn xrc)) P
theorem eX3_narrowest : iX3_narrowest kX3_narrowest := by
  intro xfl xn xcap xfs xss xbs xnx xsz xsd xct xpa xla xsi xre xcf xfn xrc n r cf R s t k a b P h0 h1 h2 h3 h4 h5 h6 h7 h8 h9 hz
  exact ⟨xfl, xn, xcap, xfs, xss, xbs, xnx, xsz, xsd, xct, xpa, xla, xsi, xre, xcf, xfn, xrc, n, r, cf, R, s, t, k, a, b, h0, h1, h2, h3, h4, h5, h6, h7, h8, h9, rfl, rfl, hz⟩
theorem oX3_narrowest (l : Launch) : zOK l RX3 cX3_narrowest rX3_narrowest (some .int) (tX3_narrowest, fX3, gX3, [(59, 2, 3, kX3_isBehind)], [(62, 2)], 1) := ⟨tX3_narrowest_ok, fX3_ok, gX3_ok, List.forall_mem_cons.mpr ⟨⟨yX3_isBehind, cX3_isBehind, 3, (some .boolean), rX3_isBehind, zX3_isBehind l, by decide +kernel, ykX3_isBehind, lkX3_59⟩, fun _ h => absurd h List.not_mem_nil⟩, by decide +kernel, rfl⟩
set_option maxRecDepth 100000 in
set_option maxHeartbeats 4000000 in
theorem wX3_narrowest {CX3_isBehind : zK} (HX3_isBehind : iX3_isBehind CX3_isBehind) {xfl : Int32} {xn : Int32} {xcap : Nat → Nat → Int32} {xfs : Nat → Int32} {xss : Nat → Int32} {xbs : Nat → Int32} {xnx : Int32} {xsz : Int32} {xsd : Int32} {xct : Nat → Nat → Int32} {xpa : Nat → Int32} {xla : Nat → Int32} {xsi : Nat → Int32} {xre : Nat → Nat → Int32} {xcf : Nat → Int32} {xfn : Int32} {xrc : Int32} {n : Nat} {r : Nat → Nat → Nat} {cf : Nat → Nat} {R : Nat} {s : Nat} {t : Nat} {k : Nat} {a : Int32} {b : Int32} {P : zP} (hfn : nI n = xfn) (hn2 : n ≤ 12) (hre : fR n xre r) (hr : ∀ i j, r i j < 2 ^ 31) (ha : a = nI s) (hb : b = nI t) (hs : s < n) (hk : k < n) (hpt : pth n r xcf cf R s k t) (ht : t < n) (hp : P (some (.inl (nI (mn r cf k t 143856)))) (CW xfl xn xcap xfs xss xbs xnx xsz xsd xct xpa xla xsi xre xcf xfn xrc)) {Z : zH} (hZ : zcl (tX3_narrowest, fX3, gX3, [(59, 2, 3, CX3_isBehind)], [(62, 2)], 1) P Z) : Z ((CW xfl xn xcap xfs xss xbs xnx xsz xsd xct xpa xla xsi xre xcf xfn xrc)) 0 [some (.inr (.inl 8)), some (.inl a), some (.inl b), none, none, none, none] [] := by
  subst ha hb hfn
  have loop : ∀ (j v m c : Nat) (o : Option zV), v < n → m < 2 ^ 31 → c + j < n → pth n r xcf cf R s j v → P (some (.inl (nI (mn r cf j v m)))) (CW xfl xn xcap xfs xss xbs xnx xsz xsd xct xpa xla xsi xre xcf (nI n) xrc) → Z (CW xfl xn xcap xfs xss xbs xnx xsz xsd xct xpa xla xsi xre xcf (nI n) xrc) 9 [some (.inr (.inl 8)), some (.inl (nI s)), some (.inl (nI t)), some (.inl (nI m)), some (.inl (nI v)), some (.inl (nI c)), o] [] := by
    intro j
    induction j with
    | zero =>
      intro v m c o hv hm hc hpv hP
      obtain rfl : v = s := hpv
      refine hZ [] 40 _ _ _ _ ?_
      refine pk_le n c (fun c => absurd c (by omega)) (fun _ => ?_)
      refine HX3_isBehind rfl hn2 rfl rfl hv hs (fun q => absurd rfl q) ?_
      exact bz (fun _ => hP) (fun c => absurd rfl (of_decide_eq_true c))
    | succ j ih =>
      intro v m c o hv hm hc hpv hP
      obtain ⟨h1, h2, h3, h4, h5, h6, h7⟩ := hpv
      refine hZ [9] 60 _ _ _ _ ?_
      refine pk_le n c (fun c => absurd c (by omega)) (fun _ => ?_)
      refine HX3_isBehind rfl hn2 rfl rfl hv hs (fun _ => ⟨cf v, h4, h3⟩) ?_
      refine bz (fun c => absurd h1 (of_decide_eq_false c)) (fun _ => ?_)
      refine And.intro (in12 (by omega)) ?_
      rw [cl12 (by omega), h3]
      refine And.intro (in12 (by omega)) ?_
      rw [cl12 (by omega)]
      refine And.intro ⟨by omega, in12 (by omega)⟩ ?_
      rw [cl12 (by omega), hre _ _ h4 hv]
      have hrr := hr (cf v) v
      have e : imin (nI m) (nI (r (cf v) v)) = nI (if r (cf v) v < m then r (cf v) v else m) := by
        unfold imin
        by_cases hc : r (cf v) v < m
        · rw [if_pos hc, if_pos ((nI_ltI hrr hm).mpr hc)]
        · rw [if_neg hc, if_neg (fun q => hc ((nI_ltI hrr hm).mp q))]
      have h9 := ih (cf v) (if r (cf v) v < m then r (cf v) v else m) (c + 1) (some (.inl (nI (cf v)))) h4 (by split <;> omega) (by omega) h7 hP
      rw [nI_succ, ← e] at h9
      exact h9
  refine hZ [9] 40 _ _ _ _ ?_
  exact loop k t 143856 0 none ht (by omega) (by omega) hpt hp
theorem zX3_narrowest (l : Launch) : zMet l yX3_narrowest cX3_narrowest 7 (some .int) rX3_narrowest kX3_narrowest := zMet_of (by decide) ⟨rfl, rfl⟩ (oX3_narrowest l) (fun as0 st0 P h => by
  obtain ⟨xfl, xn, xcap, xfs, xss, xbs, xnx, xsz, xsd, xct, xpa, xla, xsi, xre, xcf, xfn, xrc, n, r, cf, R, s, t, k, a, b, h0, h1, h2, h3, h4, h5, h6, h7, h8, h9, rfl, rfl, hz⟩ := h
  exact ⟨Nat.le_of_ble_eq_true rfl, fun Z hZ => wX3_narrowest eX3_isBehind h0 h1 h2 h3 h4 h5 h6 h7 h8 h9 hz hZ⟩)

/-- sendAlong(s, t, d) -/
def kX3_sendAlong : zK := fun as0 st0 P => ∃ xfl : Int32, ∃ xn : Int32, ∃ xcap : Nat → Nat → Int32, ∃ xfs : Nat → Int32, ∃ xss : Nat → Int32, ∃ xbs : Nat → Int32, ∃ xnx : Int32, ∃ xsz : Int32, ∃ xsd : Int32, ∃ xct : Nat → Nat → Int32, ∃ xpa : Nat → Int32, ∃ xla : Nat → Int32, ∃ xsi : Nat → Int32, ∃ xre : Nat → Nat → Int32, ∃ xcf : Nat → Int32, ∃ xfn : Int32, ∃ xrc : Int32, ∃ n : Nat, ∃ r : Nat → Nat → Nat, ∃ cf : Nat → Nat, ∃ R : Nat, ∃ s : Nat, ∃ t : Nat, ∃ k : Nat, ∃ d : Nat, ∃ a : Int32, ∃ b : Int32, ∃ c : Int32, (nI n = xfn) ∧ (n ≤ 12) ∧ (fR n xre r) ∧ (a = nI s) ∧ (b = nI t) ∧ (c = nI d) ∧ (s < n) ∧ (k < n) ∧ (pth n r xcf cf R s k t) ∧ (t < n) ∧ (ple r cf d k t) ∧ as0 = [.inr (.inl 8), .inl a, .inl b, .inl c] ∧ st0 = (CW xfl xn xcap xfs xss xbs xnx xsz xsd xct xpa xla xsi xre xcf xfn xrc) ∧ (∀ xre' r', fR n xre' r' → (∀ X : Nat, X.testBit t = false → wt n r' X + (if X.testBit s = true then d else 0) = wt n r X) → (∀ i j, r' i j + r' j i = r i j + r j i) → P none (CW xfl xn xcap xfs xss xbs xnx xsz xsd xct xpa xla xsi (xre') xcf xfn xrc))
def iX3_sendAlong (C0 : zK) : Prop := ∀ {xfl : Int32} {xn : Int32} {xcap : Nat → Nat → Int32} {xfs : Nat → Int32} {xss : Nat → Int32} {xbs : Nat → Int32} {xnx : Int32} {xsz : Int32} {xsd : Int32} {xct : Nat → Nat → Int32} {xpa : Nat → Int32} {xla : Nat → Int32} {xsi : Nat → Int32} {xre : Nat → Nat → Int32} {xcf : Nat → Int32} {xfn : Int32} {xrc : Int32} {n : Nat} {r : Nat → Nat → Nat} {cf : Nat → Nat} {R : Nat} {s : Nat} {t : Nat} {k : Nat} {d : Nat} {a : Int32} {b : Int32} {c : Int32} {P : zP}, (nI n = xfn) → (n ≤ 12) → (fR n xre r) → (a = nI s) → (b = nI t) → (c = nI d) → (s < n) → (k < n) → (pth n r xcf cf R s k t) → (t < n) → (ple r cf d k t) → (∀ xre' r', fR n xre' r' → (∀ X : Nat, X.testBit t = false → wt n r' X + (if X.testBit s = true then d else 0) = wt n r X) → (∀ i j, r' i j + r' j i = r i j + r j i) → P none (CW xfl xn xcap xfs xss xbs xnx xsz xsd xct xpa xla xsi (xre') xcf xfn xrc)) → C0 [.inr (.inl 8), .inl a, .inl b, .inl c] ((CW xfl xn xcap xfs xss xbs xnx xsz xsd xct xpa xla xsi xre xcf xfn xrc)) P
theorem eX3_sendAlong : iX3_sendAlong kX3_sendAlong := by
  intro xfl xn xcap xfs xss xbs xnx xsz xsd xct xpa xla xsi xre xcf xfn xrc n r cf R s t k d a b c P h0 h1 h2 h3 h4 h5 h6 h7 h8 h9 h10 hz
  exact ⟨xfl, xn, xcap, xfs, xss, xbs, xnx, xsz, xsd, xct, xpa, xla, xsi, xre, xcf, xfn, xrc, n, r, cf, R, s, t, k, d, a, b, c, h0, h1, h2, h3, h4, h5, h6, h7, h8, h9, h10, rfl, rfl, hz⟩
theorem oX3_sendAlong (l : Launch) : zOK l RX3 cX3_sendAlong rX3_sendAlong none (tX3_sendAlong, fX3, gX3, [(59, 2, 3, kX3_isBehind)], [], 0) := ⟨tX3_sendAlong_ok, fX3_ok, gX3_ok, List.forall_mem_cons.mpr ⟨⟨yX3_isBehind, cX3_isBehind, 3, (some .boolean), rX3_isBehind, zX3_isBehind l, by decide +kernel, ykX3_isBehind, lkX3_59⟩, fun _ h => absurd h List.not_mem_nil⟩, by decide +kernel, rfl⟩
set_option maxRecDepth 100000 in
set_option maxHeartbeats 4000000 in
theorem wX3_sendAlong {CX3_isBehind : zK} (HX3_isBehind : iX3_isBehind CX3_isBehind) {xfl : Int32} {xn : Int32} {xcap : Nat → Nat → Int32} {xfs : Nat → Int32} {xss : Nat → Int32} {xbs : Nat → Int32} {xnx : Int32} {xsz : Int32} {xsd : Int32} {xct : Nat → Nat → Int32} {xpa : Nat → Int32} {xla : Nat → Int32} {xsi : Nat → Int32} {xre : Nat → Nat → Int32} {xcf : Nat → Int32} {xfn : Int32} {xrc : Int32} {n : Nat} {r : Nat → Nat → Nat} {cf : Nat → Nat} {R : Nat} {s : Nat} {t : Nat} {k : Nat} {d : Nat} {a : Int32} {b : Int32} {c : Int32} {P : zP} (hfn : nI n = xfn) (hn2 : n ≤ 12) (hre : fR n xre r) (ha : a = nI s) (hb : b = nI t) (hc : c = nI d) (hs : s < n) (hk : k < n) (hpt : pth n r xcf cf R s k t) (ht : t < n) (hd : ple r cf d k t) (hp : ∀ xre' r', fR n xre' r' → (∀ X : Nat, X.testBit t = false → wt n r' X + (if X.testBit s = true then d else 0) = wt n r X) → (∀ i j, r' i j + r' j i = r i j + r j i) → P none (CW xfl xn xcap xfs xss xbs xnx xsz xsd xct xpa xla xsi (xre') xcf xfn xrc)) {Z : zH} (hZ : zcl (tX3_sendAlong, fX3, gX3, [(59, 2, 3, CX3_isBehind)], [], 0) P Z) : Z ((CW xfl xn xcap xfs xss xbs xnx xsz xsd xct xpa xla xsi xre xcf xfn xrc)) 0 [some (.inr (.inl 8)), some (.inl a), some (.inl b), some (.inl c), none, none, none] [] := by
  subst ha hb hc hfn
  have loop : ∀ (j v m : Nat) (o : Option zV) (xre' : Nat → Nat → Int32) (r' : Nat → Nat → Nat), v < n → m + j < n → pth n r xcf cf R s j v → ple r cf d j v → fR n xre' r' → (∀ X : Nat, X.testBit t = false → wt n r' X + (if X.testBit v = true then d else 0) = wt n r X) → (∀ i j, r' i j + r' j i = r i j + r j i) → (∀ i x, i ≤ j → pth n r xcf cf R s i x → x ≠ s → r (cf x) x ≤ r' (cf x) x) → Z (CW xfl xn xcap xfs xss xbs xnx xsz xsd xct xpa xla xsi (xre') xcf (nI n) xrc) 6 [some (.inr (.inl 8)), some (.inl (nI s)), some (.inl (nI t)), some (.inl (nI d)), some (.inl (nI v)), some (.inl (nI m)), o] [] := by
    intro j
    induction j with
    | zero =>
      intro v m o xre' r' hv hm hpv hpl h1 h2 h3 h4
      obtain rfl : v = s := hpv
      refine hZ [] 40 _ _ _ _ ?_
      refine pk_le n m (fun c => absurd c (by omega)) (fun _ => ?_)
      refine HX3_isBehind rfl hn2 rfl rfl hv hs (fun q => absurd rfl q) ?_
      exact bz (fun _ => hp xre' r' h1 h2 h3) (fun c => absurd rfl (of_decide_eq_true c))
    | succ j ih =>
      intro v m o xre' r' hv hm hpv hpl h1 h2 h3 h4
      have hdr : d ≤ r' (cf v) v := Nat.le_trans hpl.1 (h4 (j + 1) v (Nat.le_refl _) hpv hpv.1)
      have hpv0 := hpv
      obtain ⟨g1, g2, g3, g4, g5, g6, g7⟩ := hpv
      have guv : cf v ≠ v := fun q => by
        have := pth_uniq j (j + 1) v (by rw [q] at g7; exact g7) hpv0
        omega
      refine hZ [6] 60 _ _ _ _ ?_
      refine pk_le n m (fun c => absurd c (by omega)) (fun _ => ?_)
      refine HX3_isBehind rfl hn2 rfl rfl hv hs (fun _ => ⟨cf v, g4, g3⟩) ?_
      refine bz (fun c => absurd g1 (of_decide_eq_false c)) (fun _ => ?_)
      refine And.intro (in12 (by omega)) ?_
      rw [cl12 (by omega), g3]
      refine And.intro (in12 (by omega)) ?_
      rw [cl12 (by omega)]
      refine And.intro ⟨by omega, in12 (by omega)⟩ ?_
      rw [cl12 (by omega), h1 _ _ g4 hv]
      refine And.intro ⟨by omega, in12 (by omega)⟩ ?_
      rw [cl12 (by omega)]
      refine And.intro (in12 (by omega)) ?_
      rw [cl12 (by omega)]
      refine And.intro ⟨by omega, in12 (by omega)⟩ ?_
      rw [cl12 (by omega)]
      have ev : zup xre' (cf v) (upd (xre' (cf v)) v (nI (r' (cf v) v) - nI d)) v (cf v) = nI (r' v (cf v)) := by
        have : zup xre' (cf v) (upd (xre' (cf v)) v (nI (r' (cf v) v) - nI d)) v = xre' v := by simp [zup, Ne.symm guv]
        rw [this]
        exact h1 _ _ hv g4
      rw [ev]
      refine And.intro ⟨by omega, in12 (by omega)⟩ ?_
      rw [cl12 (by omega)]
      have h9 := ih (cf v) (m + 1) (some (.inl (nI (cf v)))) (zup (zup xre' (cf v) (upd (xre' (cf v)) v (nI (r' (cf v) v) - nI d))) v (upd (zup xre' (cf v) (upd (xre' (cf v)) v (nI (r' (cf v) v) - nI d)) v) (cf v) (nI (r' v (cf v)) + nI d))) (snd2 r' (cf v) v d) g4 (by omega) g7 hpl.2 ?_ ?_ ?_ ?_
      · rw [nI_succ] at h9
        exact h9
      · intro i q hi hq
        by_cases e1 : i = v
        · subst e1
          by_cases e2 : q = cf i
          · subst e2
            rw [zup_at, pk_us, nI_add]
            simp [snd2, up2]
          · rw [zup_at, pk_un e2]
            have : zup xre' (cf i) (upd (xre' (cf i)) i (nI (r' (cf i) i) - nI d)) i = xre' i := by simp [zup, Ne.symm guv]
            rw [this, h1 _ _ hi hq]
            simp [snd2, up2, e2, Ne.symm guv]
        · have z1 : ∀ (f : Nat → Nat → Int32) (g : Nat → Int32), zup f v g i = f i := fun f g => by simp [zup, e1]
          rw [z1]
          by_cases e2 : i = cf v
          · subst e2
            rw [zup_at]
            by_cases e3 : q = v
            · subst e3
              rw [pk_us, pk_sub hdr]
              simp [snd2, up2, guv]
            · rw [pk_un e3, h1 _ _ hi hq]
              simp [snd2, up2, e3, e1]
          · have : zup xre' (cf v) (upd (xre' (cf v)) v (nI (r' (cf v) v) - nI d)) i = xre' i := by simp [zup, e2]
            rw [this, h1 _ _ hi hq]
            simp [snd2, up2, e1, e2]
      · intro X hX
        have a1 := snd2_wt (S := X) g4 hv guv hdr
        have a2 := h2 X hX
        omega
      · intro i q
        rw [snd2_pair guv hdr, h3]
      · intro i x hi hx hxs
        refine Nat.le_trans (h4 i x (by omega) hx hxs) (snd2_ge ?_)
        rintro ⟨-, q⟩
        subst q
        have := pth_uniq i (j + 1) x hx hpv0
        omega
  refine hZ [6] 40 _ _ _ _ ?_
  exact loop k t 0 none xre r ht (by omega) hpt hd hre (fun X hX => by rw [hX]; simp) (fun _ _ => rfl) (fun _ _ _ _ _ => Nat.le_refl _)
theorem zX3_sendAlong (l : Launch) : zMet l yX3_sendAlong cX3_sendAlong 7 none rX3_sendAlong kX3_sendAlong := zMet_of (by decide) ⟨rfl, rfl⟩ (oX3_sendAlong l) (fun as0 st0 P h => by
  obtain ⟨xfl, xn, xcap, xfs, xss, xbs, xnx, xsz, xsd, xct, xpa, xla, xsi, xre, xcf, xfn, xrc, n, r, cf, R, s, t, k, d, a, b, c, h0, h1, h2, h3, h4, h5, h6, h7, h8, h9, h10, rfl, rfl, hz⟩ := h
  exact ⟨Nat.le_of_ble_eq_true rfl, fun Z hZ => wX3_sendAlong eX3_isBehind h0 h1 h2 h3 h4 h5 h6 h7 h8 h9 h10 hz hZ⟩)

