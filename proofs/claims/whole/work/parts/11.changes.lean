/-! THE LIST OF CHANGES: latest first; the component holds it in rows that are used round and round. -/
def cR (n : Nat) (fs ss bs : Nat → Int32) (nx sz : Int32) (L : List (Nat × Nat × Nat)) : Prop := ∃ q, q ≤ 40 ∧ nI q = nx ∧ nI L.length = sz ∧ L.length ≤ 40 ∧ (∀ i e, L[i]? = some e → fs ((q + 39 - i) % 40) = nI e.1 ∧ ss ((q + 39 - i) % 40) = nI e.2.1 ∧ bs ((q + 39 - i) % 40) = nI e.2.2) ∧ (∀ e ∈ L, e.1 < n ∧ e.2.1 < n ∧ e.1 ≠ e.2.1 ∧ e.2.2 ≤ 999)
theorem in40 {u : Nat} (h : u < 40) : vp_in (nI u) 40 := vp_in_nI h (by omega)
theorem cl40 {u : Nat} (h : u < 40) : (nI u).toNatClampNeg = u := nI_clamp (by omega)
theorem cR_add {n q u v w : Nat} {fs ss bs : Nat → Int32} {L : List (Nat × Nat × Nat)} (hq : q ≤ 40) (hl : L.length ≤ 40) (h1 : ∀ i e, L[i]? = some e → fs ((q + 39 - i) % 40) = nI e.1 ∧ ss ((q + 39 - i) % 40) = nI e.2.1 ∧ bs ((q + 39 - i) % 40) = nI e.2.2) (h2 : ∀ e ∈ L, e.1 < n ∧ e.2.1 < n ∧ e.1 ≠ e.2.1 ∧ e.2.2 ≤ 999) (hu : u < n) (hv : v < n) (huv : u ≠ v) (hw : w ≤ 999) {p : Nat} (hpe : p = if q < 40 then q else 0) : cR n (upd fs p (nI u)) (upd ss p (nI v)) (upd bs p (nI w)) (nI (p + 1)) (nI (min (L.length + 1) 40)) (((u, v, w) :: L).take 40) := by
  have hp40 : p < 40 := by subst hpe; split <;> omega
  refine ⟨p + 1, by omega, rfl, ?_, ?_, ?_, ?_⟩
  · rw [List.length_take, List.length_cons]
    congr 1
    omega
  · rw [List.length_take]; omega
  · intro i e he
    rw [List.getElem?_take] at he
    split at he
    · rename_i hi
      cases i with
      | zero =>
        simp at he
        subst he
        have e0 : (p + 1 + 39 - 0) % 40 = p := by omega
        rw [e0]
        exact ⟨pk_us, pk_us, pk_us⟩
      | succ i =>
        rw [List.getElem?_cons_succ] at he
        have e0 : (p + 1 + 39 - (i + 1)) % 40 = (q + 39 - i) % 40 := by subst hpe; split <;> omega
        have e1 : (q + 39 - i) % 40 ≠ p := by subst hpe; split <;> omega
        rw [e0, pk_un e1, pk_un e1, pk_un e1]
        exact h1 i e he
    · cases he
  · intro e he
    rcases List.mem_cons.mp (List.mem_of_mem_take he) with rfl | he
    · exact ⟨hu, hv, huv, hw⟩
    · exact h2 e he
/-- forgetAll() -/
def kX0_forgetAll : zK := fun as0 st0 P => ∃ xfl : Int32, ∃ xn : Int32, ∃ xcap : Nat → Nat → Int32, ∃ xfs : Nat → Int32, ∃ xss : Nat → Int32, ∃ xbs : Nat → Int32, ∃ xnx : Int32, ∃ xsz : Int32, ∃ xsd : Int32, ∃ xct : Nat → Nat → Int32, ∃ xpa : Nat → Int32, ∃ xla : Nat → Int32, ∃ xsi : Nat → Int32, ∃ xre : Nat → Nat → Int32, ∃ xcf : Nat → Int32, ∃ xfn : Int32, ∃ xrc : Int32, as0 = [.inr (.inl 3)] ∧ st0 = (CW xfl xn xcap xfs xss xbs xnx xsz xsd xct xpa xla xsi xre xcf xfn xrc) ∧ (P none (CW xfl xn xcap xfs xss xbs (0) (0) xsd xct xpa xla xsi xre xcf xfn xrc))
def iX0_forgetAll (C0 : zK) : Prop := ∀ {xfl : Int32} {xn : Int32} {xcap : Nat → Nat → Int32} {xfs : Nat → Int32} {xss : Nat → Int32} {xbs : Nat → Int32} {xnx : Int32} {xsz : Int32} {xsd : Int32} {xct : Nat → Nat → Int32} {xpa : Nat → Int32} {xla : Nat → Int32} {xsi : Nat → Int32} {xre : Nat → Nat → Int32} {xcf : Nat → Int32} {xfn : Int32} {xrc : Int32} {P : zP}, (P none (CW xfl xn xcap xfs xss xbs (0) (0) xsd xct xpa xla xsi xre xcf xfn xrc)) → C0 [.inr (.inl 3)] ((CW xfl xn xcap xfs xss xbs xnx xsz xsd xct xpa xla xsi xre xcf xfn xrc)) P
theorem eX0_forgetAll : iX0_forgetAll kX0_forgetAll := by
  intro xfl xn xcap xfs xss xbs xnx xsz xsd xct xpa xla xsi xre xcf xfn xrc P  hz
  exact ⟨xfl, xn, xcap, xfs, xss, xbs, xnx, xsz, xsd, xct, xpa, xla, xsi, xre, xcf, xfn, xrc, rfl, rfl, hz⟩
theorem oX0_forgetAll (l : Launch) : zOK l RX0 cX0_forgetAll rX0_forgetAll none (tX0_forgetAll, fX0, gX0, [], [], 0) := ⟨tX0_forgetAll_ok, fX0_ok, gX0_ok, fun _ h => absurd h List.not_mem_nil, by decide +kernel, rfl⟩
set_option maxRecDepth 100000 in
set_option maxHeartbeats 4000000 in
theorem wX0_forgetAll {xfl : Int32} {xn : Int32} {xcap : Nat → Nat → Int32} {xfs : Nat → Int32} {xss : Nat → Int32} {xbs : Nat → Int32} {xnx : Int32} {xsz : Int32} {xsd : Int32} {xct : Nat → Nat → Int32} {xpa : Nat → Int32} {xla : Nat → Int32} {xsi : Nat → Int32} {xre : Nat → Nat → Int32} {xcf : Nat → Int32} {xfn : Int32} {xrc : Int32} {P : zP} (hp : P none (CW xfl xn xcap xfs xss xbs (0) (0) xsd xct xpa xla xsi xre xcf xfn xrc)) {Z : zH} (hZ : zcl (tX0_forgetAll, fX0, gX0, [], [], 0) P Z) : Z ((CW xfl xn xcap xfs xss xbs xnx xsz xsd xct xpa xla xsi xre xcf xfn xrc)) 0 [some (.inr (.inl 3))] [] := by
  exact hZ [] 40 _ _ _ _ hp
theorem zX0_forgetAll (l : Launch) : zMet l yX0_forgetAll cX0_forgetAll 1 none rX0_forgetAll kX0_forgetAll := zMet_of (by decide) ⟨rfl, rfl⟩ (oX0_forgetAll l) (fun as0 st0 P h => by
  obtain ⟨xfl, xn, xcap, xfs, xss, xbs, xnx, xsz, xsd, xct, xpa, xla, xsi, xre, xcf, xfn, xrc, rfl, rfl, hz⟩ := h
  exact ⟨Nat.le_of_ble_eq_true rfl, fun Z hZ => wX0_forgetAll hz hZ⟩)

/-- isPlace(p) -/
def kX0_isPlace : zK := fun as0 st0 P => ∃ a : Int32, ∃ σ : zS, as0 = [.inl a] ∧ st0 = σ ∧ (P (some (.inl (b2i (okN 40 a)))) σ)
def iX0_isPlace (C0 : zK) : Prop := ∀ {a : Int32} {σ : zS} {P : zP}, (P (some (.inl (b2i (okN 40 a)))) σ) → C0 [.inl a] (σ) P
theorem eX0_isPlace : iX0_isPlace kX0_isPlace := by
  intro a σ P  hz
  exact ⟨a, σ, rfl, rfl, hz⟩
theorem oX0_isPlace (l : Launch) : zOK l RX0 cX0_isPlace rX0_isPlace (some .boolean) (tX0_isPlace, fX0, gX0, [], [], 2) := ⟨tX0_isPlace_ok, fX0_ok, gX0_ok, fun _ h => absurd h List.not_mem_nil, by decide +kernel, rfl⟩
set_option maxRecDepth 100000 in
set_option maxHeartbeats 4000000 in
theorem wX0_isPlace {a : Int32} {σ : zS} {P : zP} (hp : P (some (.inl (b2i (okN 40 a)))) σ) {Z : zH} (hZ : zcl (tX0_isPlace, fX0, gX0, [], [], 2) P Z) : Z (σ) 0 [some (.inl a)] [] := by
  have h40 : nI 40 = 40 := rfl
  refine hZ [] 20 _ _ _ _ ?_
  refine And.intro (fun c => ?_) (fun c => ?_)
  · have e : okN 40 a = false := by rw [okN, decide_eq_false_iff_not]; exact fun q => Int32.not_le.mpr c q.1
    rw [e] at hp
    exact And.intro (Or.inl rfl) hp
  · refine And.intro (fun c2 => ?_) (fun c2 => ?_)
    · have e : okN 40 a = false := by rw [okN, decide_eq_false_iff_not, h40]; exact fun q => Int32.not_le.mpr q.2 c2
      rw [e] at hp
      exact And.intro (Or.inl rfl) hp
    · have e : okN 40 a = true := by rw [okN, decide_eq_true_eq, h40]; exact ⟨Int32.not_lt.mp c, Int32.not_le.mp c2⟩
      rw [e] at hp
      exact And.intro (Or.inr rfl) hp
theorem zX0_isPlace (l : Launch) : zMet l yX0_isPlace cX0_isPlace 1 (some .boolean) rX0_isPlace kX0_isPlace := zMet_of (by decide) ⟨rfl, rfl⟩ (oX0_isPlace l) (fun as0 st0 P h => by
  obtain ⟨a, σ, rfl, rfl, hz⟩ := h
  exact ⟨Nat.le_of_ble_eq_true rfl, fun Z hZ => wX0_isPlace hz hZ⟩)

/-- remember(u, v, w) -/
def kX0_remember : zK := fun as0 st0 P => ∃ xfl : Int32, ∃ xn : Int32, ∃ xcap : Nat → Nat → Int32, ∃ xfs : Nat → Int32, ∃ xss : Nat → Int32, ∃ xbs : Nat → Int32, ∃ xnx : Int32, ∃ xsz : Int32, ∃ xsd : Int32, ∃ xct : Nat → Nat → Int32, ∃ xpa : Nat → Int32, ∃ xla : Nat → Int32, ∃ xsi : Nat → Int32, ∃ xre : Nat → Nat → Int32, ∃ xcf : Nat → Int32, ∃ xfn : Int32, ∃ xrc : Int32, ∃ n : Nat, ∃ u : Nat, ∃ v : Nat, ∃ w : Nat, ∃ a : Int32, ∃ b : Int32, ∃ c : Int32, ∃ L : List (Nat × Nat × Nat), (cR n xfs xss xbs xnx xsz L) ∧ (a = nI u) ∧ (b = nI v) ∧ (c = nI w) ∧ (u < n) ∧ (v < n) ∧ (u ≠ v) ∧ (w ≤ 999) ∧ as0 = [.inr (.inl 3), .inl a, .inl b, .inl c] ∧ st0 = (CW xfl xn xcap xfs xss xbs xnx xsz xsd xct xpa xla xsi xre xcf xfn xrc) ∧ (∀ fs' ss' bs' nx' sz', cR n fs' ss' bs' nx' sz' (((u, v, w) :: L).take 40) → P none (CW xfl xn xcap (fs') (ss') (bs') (nx') (sz') xsd xct xpa xla xsi xre xcf xfn xrc))
def iX0_remember (C0 : zK) : Prop := ∀ {xfl : Int32} {xn : Int32} {xcap : Nat → Nat → Int32} {xfs : Nat → Int32} {xss : Nat → Int32} {xbs : Nat → Int32} {xnx : Int32} {xsz : Int32} {xsd : Int32} {xct : Nat → Nat → Int32} {xpa : Nat → Int32} {xla : Nat → Int32} {xsi : Nat → Int32} {xre : Nat → Nat → Int32} {xcf : Nat → Int32} {xfn : Int32} {xrc : Int32} {n : Nat} {u : Nat} {v : Nat} {w : Nat} {a : Int32} {b : Int32} {c : Int32} {L : List (Nat × Nat × Nat)} {P : zP}, (cR n xfs xss xbs xnx xsz L) → (a = nI u) → (b = nI v) → (c = nI w) → (u < n) → (v < n) → (u ≠ v) → (w ≤ 999) → (∀ fs' ss' bs' nx' sz', cR n fs' ss' bs' nx' sz' (((u, v, w) :: L).take 40) → P none (CW xfl xn xcap (fs') (ss') (bs') (nx') (sz') xsd xct xpa xla xsi xre xcf xfn xrc)) → C0 [.inr (.inl 3), .inl a, .inl b, .inl c] ((CW xfl xn xcap xfs xss xbs xnx xsz xsd xct xpa xla xsi xre xcf xfn xrc)) P
theorem eX0_remember : iX0_remember kX0_remember := by
  intro xfl xn xcap xfs xss xbs xnx xsz xsd xct xpa xla xsi xre xcf xfn xrc n u v w a b c L P h0 h1 h2 h3 h4 h5 h6 h7 hz
  exact ⟨xfl, xn, xcap, xfs, xss, xbs, xnx, xsz, xsd, xct, xpa, xla, xsi, xre, xcf, xfn, xrc, n, u, v, w, a, b, c, L, h0, h1, h2, h3, h4, h5, h6, h7, rfl, rfl, hz⟩
theorem oX0_remember (l : Launch) : zOK l RX0 cX0_remember rX0_remember none (tX0_remember, fX0, gX0, [(28, 1, 100, kX0_isPlace)], [(32, 2)], 0) := ⟨tX0_remember_ok, fX0_ok, gX0_ok, List.forall_mem_cons.mpr ⟨⟨yX0_isPlace, cX0_isPlace, 1, (some .boolean), rX0_isPlace, zX0_isPlace l, by decide +kernel, ykX0_isPlace, lkX0_28⟩, fun _ h => absurd h List.not_mem_nil⟩, by decide +kernel, rfl⟩
set_option maxRecDepth 100000 in
set_option maxHeartbeats 4000000 in
theorem wX0_remember {CX0_isPlace : zK} (HX0_isPlace : iX0_isPlace CX0_isPlace) {xfl : Int32} {xn : Int32} {xcap : Nat → Nat → Int32} {xfs : Nat → Int32} {xss : Nat → Int32} {xbs : Nat → Int32} {xnx : Int32} {xsz : Int32} {xsd : Int32} {xct : Nat → Nat → Int32} {xpa : Nat → Int32} {xla : Nat → Int32} {xsi : Nat → Int32} {xre : Nat → Nat → Int32} {xcf : Nat → Int32} {xfn : Int32} {xrc : Int32} {n : Nat} {u : Nat} {v : Nat} {w : Nat} {a : Int32} {b : Int32} {c : Int32} {L : List (Nat × Nat × Nat)} {P : zP} (hL : cR n xfs xss xbs xnx xsz L) (ha : a = nI u) (hb : b = nI v) (hc : c = nI w) (hu : u < n) (hv : v < n) (huv : u ≠ v) (hw : w ≤ 999) (hp : ∀ fs' ss' bs' nx' sz', cR n fs' ss' bs' nx' sz' (((u, v, w) :: L).take 40) → P none (CW xfl xn xcap (fs') (ss') (bs') (nx') (sz') xsd xct xpa xla xsi xre xcf xfn xrc)) {Z : zH} (hZ : zcl (tX0_remember, fX0, gX0, [(28, 1, 100, CX0_isPlace)], [(32, 2)], 0) P Z) : Z ((CW xfl xn xcap xfs xss xbs xnx xsz xsd xct xpa xla xsi xre xcf xfn xrc)) 0 [some (.inr (.inl 3)), some (.inl a), some (.inl b), some (.inl c), none] [] := by
  subst ha hb hc
  obtain ⟨q, hq, rfl, rfl, hl, h1, h2⟩ := hL
  have fin : imin (nI L.length + 1) 40 = nI (min (L.length + 1) 40) := by
    rw [nI_1, imin]
    have h40 : (40 : Int32) = nI 40 := rfl
    rw [h40]
    by_cases hc : nI 40 < nI (L.length + 1)
    · rw [if_pos hc]
      have := (nI_ltI (by omega) (by omega)).mp hc
      congr 1; omega
    · rw [if_neg hc]
      have : ¬ 40 < L.length + 1 := fun q => hc ((nI_ltI (by omega) (by omega)).mpr q)
      congr 1; omega
  have main : ∀ p, p < 40 → p = (if q < 40 then q else 0) → Z (CW xfl xn xcap xfs xss xbs (nI q) (nI L.length) xsd xct xpa xla xsi xre xcf xfn xrc) 18 [some (.inr (.inl 3)), some (.inl (nI u)), some (.inl (nI v)), some (.inl (nI w)), none] [.inl (nI p)] := by
    intro p h40 hpe
    refine hZ [] 60 _ _ _ _ ?_
    refine And.intro (in40 h40) ?_
    rw [cl40 h40]
    refine And.intro (in40 h40) ?_
    rw [cl40 h40]
    refine And.intro (in40 h40) ?_
    rw [cl40 h40]
    have h9 := cR_add hq hl h1 h2 hu hv huv hw hpe
    rw [← fin, nI_succ] at h9
    exact hp _ _ _ _ _ h9
  refine hZ [18] 40 _ _ _ _ ?_
  refine HX0_isPlace ?_
  refine bz (fun c => ?_) (fun c => ?_)
  · exact main 0 (by omega) (by
      rw [if_neg]
      intro h
      rw [okN_nI (by decide) h] at c
      cases c)
  · have h : q < 40 := by
      by_cases h : q < 40
      · exact h
      · obtain rfl : q = 40 := by omega
        exact absurd c (by decide +kernel)
    exact main q h (by rw [if_pos h])
theorem zX0_remember (l : Launch) : zMet l yX0_remember cX0_remember 5 none rX0_remember kX0_remember := zMet_of (by decide) ⟨rfl, rfl⟩ (oX0_remember l) (fun as0 st0 P h => by
  obtain ⟨xfl, xn, xcap, xfs, xss, xbs, xnx, xsz, xsd, xct, xpa, xla, xsi, xre, xcf, xfn, xrc, n, u, v, w, a, b, c, L, h0, h1, h2, h3, h4, h5, h6, h7, rfl, rfl, hz⟩ := h
  exact ⟨Nat.le_of_ble_eq_true rfl, fun Z hZ => wX0_remember eX0_isPlace h0 h1 h2 h3 h4 h5 h6 h7 hz hZ⟩)

/-- takeBackLatest(graph) -/
def kX0_takeBackLatest : zK := fun as0 st0 P => ∃ xfl : Int32, ∃ xn : Int32, ∃ xcap : Nat → Nat → Int32, ∃ xfs : Nat → Int32, ∃ xss : Nat → Int32, ∃ xbs : Nat → Int32, ∃ xnx : Int32, ∃ xsz : Int32, ∃ xsd : Int32, ∃ xct : Nat → Nat → Int32, ∃ xpa : Nat → Int32, ∃ xla : Nat → Int32, ∃ xsi : Nat → Int32, ∃ xre : Nat → Nat → Int32, ∃ xcf : Nat → Int32, ∃ xfn : Int32, ∃ xrc : Int32, ∃ n : Nat, ∃ u : Nat, ∃ v : Nat, ∃ w : Nat, ∃ L : List (Nat × Nat × Nat), (cR n xfs xss xbs xnx xsz ((u, v, w) :: L)) ∧ (nI n = xn) ∧ (n ≤ 12) ∧ as0 = [.inr (.inl 3), .inr (.inl 1)] ∧ st0 = (CW xfl xn xcap xfs xss xbs xnx xsz xsd xct xpa xla xsi xre xcf xfn xrc) ∧ (∀ cap' nx' sz', (∀ i j, cap' i j = if (i = u ∧ j = v) ∨ (i = v ∧ j = u) then nI w else xcap i j) → cR n xfs xss xbs nx' sz' L → P none (CW xfl xn (cap') xfs xss xbs (nx') (sz') xsd xct xpa xla xsi xre xcf xfn xrc))
def iX0_takeBackLatest (C0 : zK) : Prop := ∀ {xfl : Int32} {xn : Int32} {xcap : Nat → Nat → Int32} {xfs : Nat → Int32} {xss : Nat → Int32} {xbs : Nat → Int32} {xnx : Int32} {xsz : Int32} {xsd : Int32} {xct : Nat → Nat → Int32} {xpa : Nat → Int32} {xla : Nat → Int32} {xsi : Nat → Int32} {xre : Nat → Nat → Int32} {xcf : Nat → Int32} {xfn : Int32} {xrc : Int32} {n : Nat} {u : Nat} {v : Nat} {w : Nat} {L : List (Nat × Nat × Nat)} {P : zP}, (cR n xfs xss xbs xnx xsz ((u, v, w) :: L)) → (nI n = xn) → (n ≤ 12) → (∀ cap' nx' sz', (∀ i j, cap' i j = if (i = u ∧ j = v) ∨ (i = v ∧ j = u) then nI w else xcap i j) → cR n xfs xss xbs nx' sz' L → P none (CW xfl xn (cap') xfs xss xbs (nx') (sz') xsd xct xpa xla xsi xre xcf xfn xrc)) → C0 [.inr (.inl 3), .inr (.inl 1)] ((CW xfl xn xcap xfs xss xbs xnx xsz xsd xct xpa xla xsi xre xcf xfn xrc)) P
theorem eX0_takeBackLatest : iX0_takeBackLatest kX0_takeBackLatest := by
  intro xfl xn xcap xfs xss xbs xnx xsz xsd xct xpa xla xsi xre xcf xfn xrc n u v w L P h0 h1 h2 hz
  exact ⟨xfl, xn, xcap, xfs, xss, xbs, xnx, xsz, xsd, xct, xpa, xla, xsi, xre, xcf, xfn, xrc, n, u, v, w, L, h0, h1, h2, rfl, rfl, hz⟩
theorem oX0_takeBackLatest (l : Launch) : zOK l RX0 cX0_takeBackLatest rX0_takeBackLatest none (tX0_takeBackLatest, fX0, gX0, [(28, 1, 100, kX0_isPlace), (38, 3, 2, kX2_put)], [], 0) := ⟨tX0_takeBackLatest_ok, fX0_ok, gX0_ok, List.forall_mem_cons.mpr ⟨⟨yX0_isPlace, cX0_isPlace, 1, (some .boolean), rX0_isPlace, zX0_isPlace l, by decide +kernel, ykX0_isPlace, lkX0_28⟩, List.forall_mem_cons.mpr ⟨⟨yX2_put, cX2_put, 4, none, rX2_put, zX2_put l, by decide +kernel, ykX2_put, lkX0_38⟩, fun _ h => absurd h List.not_mem_nil⟩⟩, by decide +kernel, rfl⟩
set_option maxRecDepth 100000 in
set_option maxHeartbeats 4000000 in
theorem wX0_takeBackLatest {CX0_isPlace : zK} (HX0_isPlace : iX0_isPlace CX0_isPlace) {CX2_put : zK} (HX2_put : iX2_put CX2_put) {xfl : Int32} {xn : Int32} {xcap : Nat → Nat → Int32} {xfs : Nat → Int32} {xss : Nat → Int32} {xbs : Nat → Int32} {xnx : Int32} {xsz : Int32} {xsd : Int32} {xct : Nat → Nat → Int32} {xpa : Nat → Int32} {xla : Nat → Int32} {xsi : Nat → Int32} {xre : Nat → Nat → Int32} {xcf : Nat → Int32} {xfn : Int32} {xrc : Int32} {n : Nat} {u : Nat} {v : Nat} {w : Nat} {L : List (Nat × Nat × Nat)} {P : zP} (hL : cR n xfs xss xbs xnx xsz ((u, v, w) :: L)) (hxn : nI n = xn) (hn : n ≤ 12) (hp : ∀ cap' nx' sz', (∀ i j, cap' i j = if (i = u ∧ j = v) ∨ (i = v ∧ j = u) then nI w else xcap i j) → cR n xfs xss xbs nx' sz' L → P none (CW xfl xn (cap') xfs xss xbs (nx') (sz') xsd xct xpa xla xsi xre xcf xfn xrc)) {Z : zH} (hZ : zcl (tX0_takeBackLatest, fX0, gX0, [(28, 1, 100, CX0_isPlace), (38, 3, 2, CX2_put)], [], 0) P Z) : Z ((CW xfl xn xcap xfs xss xbs xnx xsz xsd xct xpa xla xsi xre xcf xfn xrc)) 0 [some (.inr (.inl 3)), some (.inr (.inl 1)), none] [] := by
  obtain ⟨q, hq, rfl, rfl, hl, h1, h2⟩ := hL
  obtain ⟨hu, hv, huv, hw⟩ := h2 _ List.mem_cons_self
  dsimp only at hu hv huv hw
  have h0 := h1 0 _ rfl
  dsimp only at h0
  rw [List.length_cons] at hl
  have fin : ∀ q', q' < 40 → (q + 39 - 0) % 40 = q' → cR n xfs xss xbs (nI q') (nI L.length) L := by
    intro q' hq' e
    refine ⟨q', by omega, rfl, rfl, by omega, fun i e9 he => ?_, fun e9 he => h2 e9 (List.mem_cons_of_mem _ he)⟩
    have h3 := h1 (i + 1) e9 (by rw [List.getElem?_cons_succ]; exact he)
    have hi : i < L.length := (List.getElem?_eq_some_iff.mp he).1
    have e3 : (q + 39 - (i + 1)) % 40 = (q' + 39 - i) % 40 := by omega
    rw [e3] at h3
    exact h3
  have main : ∀ p, p < 40 → (q + 39 - 0) % 40 = p → Z (CW xfl xn xcap xfs xss xbs (nI q) (nI ((u, v, w) :: L).length) xsd xct xpa xla xsi xre xcf xfn xrc) 23 [some (.inr (.inl 3)), some (.inr (.inl 1)), none] [.inl (nI p)] := by
    intro p h40 hpe
    rw [hpe] at h0
    refine hZ [] 60 _ _ _ _ ?_
    refine And.intro (in40 h40) ?_
    rw [cl40 h40, h0.1]
    refine And.intro (in40 h40) ?_
    rw [cl40 h40, h0.2.1]
    refine And.intro (in40 h40) ?_
    rw [cl40 h40, h0.2.2]
    refine HX2_put hxn hn rfl rfl hu hv (fun cap' hcap' => ?_)
    exact hp cap' _ _ hcap' (by
      rw [List.length_cons, nI_pred]
      exact fin p h40 hpe)
  refine hZ [23] 40 _ _ _ _ ?_
  refine HX0_isPlace ?_
  refine bz (fun c => ?_) (fun c => ?_)
  · have e : q = 0 := by
      by_cases h : q = 0
      · exact h
      · obtain ⟨q', rfl⟩ : ∃ q', q = q' + 1 := ⟨q - 1, by omega⟩
        rw [nI_pred, okN_nI (by decide) (by omega)] at c
        cases c
    exact main 39 (by omega) (by omega)
  · cases q with
    | zero => exact absurd c (by decide +kernel)
    | succ q' =>
      have h9 := main q' (by omega) (by omega)
      rw [← nI_pred q'] at h9
      exact h9
theorem zX0_takeBackLatest (l : Launch) : zMet l yX0_takeBackLatest cX0_takeBackLatest 3 none rX0_takeBackLatest kX0_takeBackLatest := zMet_of (by decide) ⟨rfl, rfl⟩ (oX0_takeBackLatest l) (fun as0 st0 P h => by
  obtain ⟨xfl, xn, xcap, xfs, xss, xbs, xnx, xsz, xsd, xct, xpa, xla, xsi, xre, xcf, xfn, xrc, n, u, v, w, L, h0, h1, h2, rfl, rfl, hz⟩ := h
  exact ⟨Nat.le_of_ble_eq_true rfl, fun Z hZ => wX0_takeBackLatest eX0_isPlace eX2_put h0 h1 h2 hz hZ⟩)

