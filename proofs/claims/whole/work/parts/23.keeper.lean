/-- pairError(u, v) -/
def kX4_pairError : zK := fun as0 st0 P => ∃ xfl : Int32, ∃ xn : Int32, ∃ xcap : Nat → Nat → Int32, ∃ xfs : Nat → Int32, ∃ xss : Nat → Int32, ∃ xbs : Nat → Int32, ∃ xnx : Int32, ∃ xsz : Int32, ∃ xsd : Int32, ∃ xct : Nat → Nat → Int32, ∃ xpa : Nat → Int32, ∃ xla : Nat → Int32, ∃ xsi : Nat → Int32, ∃ xre : Nat → Nat → Int32, ∃ xcf : Nat → Int32, ∃ xfn : Int32, ∃ xrc : Int32, ∃ n : Nat, ∃ a : Int32, ∃ b : Int32, (nI n = xn) ∧ as0 = [.inr (.inl 0), .inl a, .inl b] ∧ st0 = (CW xfl xn xcap xfs xss xbs xnx xsz xsd xct xpa xla xsi xre xcf xfn xrc) ∧ (P (some (.inl (pe n a b))) (CW xfl xn xcap xfs xss xbs xnx xsz xsd xct xpa xla xsi xre xcf xfn xrc))
def iX4_pairError (C0 : zK) : Prop := ∀ {xfl : Int32} {xn : Int32} {xcap : Nat → Nat → Int32} {xfs : Nat → Int32} {xss : Nat → Int32} {xbs : Nat → Int32} {xnx : Int32} {xsz : Int32} {xsd : Int32} {xct : Nat → Nat → Int32} {xpa : Nat → Int32} {xla : Nat → Int32} {xsi : Nat → Int32} {xre : Nat → Nat → Int32} {xcf : Nat → Int32} {xfn : Int32} {xrc : Int32} {n : Nat} {a : Int32} {b : Int32} {P : zP}, (nI n = xn) → (P (some (.inl (pe n a b))) (CW xfl xn xcap xfs xss xbs xnx xsz xsd xct xpa xla xsi xre xcf xfn xrc)) → C0 [.inr (.inl 0), .inl a, .inl b] ((CW xfl xn xcap xfs xss xbs xnx xsz xsd xct xpa xla xsi xre xcf xfn xrc)) P
theorem eX4_pairError : iX4_pairError kX4_pairError := by
  intro xfl xn xcap xfs xss xbs xnx xsz xsd xct xpa xla xsi xre xcf xfn xrc n a b P h0 hz
  exact ⟨xfl, xn, xcap, xfs, xss, xbs, xnx, xsz, xsd, xct, xpa, xla, xsi, xre, xcf, xfn, xrc, n, a, b, h0, rfl, rfl, hz⟩
theorem oX4_pairError (l : Launch) : zOK l RX4 cX4_pairError rX4_pairError (some .int) (tX4_pairError, fX4, gX4, [(134, 1, 2, kX2_hasNode)], [], 1) := ⟨tX4_pairError_ok, fX4_ok, gX4_ok, List.forall_mem_cons.mpr ⟨⟨yX2_hasNode, cX2_hasNode, 2, (some .boolean), rX2_hasNode, zX2_hasNode l, by decide +kernel, ykX2_hasNode, lkX4_134⟩, fun _ h => absurd h List.not_mem_nil⟩, by decide +kernel, rfl⟩
set_option maxRecDepth 100000 in
set_option maxHeartbeats 4000000 in
theorem wX4_pairError {CX2_hasNode : zK} (HX2_hasNode : iX2_hasNode CX2_hasNode) {xfl : Int32} {xn : Int32} {xcap : Nat → Nat → Int32} {xfs : Nat → Int32} {xss : Nat → Int32} {xbs : Nat → Int32} {xnx : Int32} {xsz : Int32} {xsd : Int32} {xct : Nat → Nat → Int32} {xpa : Nat → Int32} {xla : Nat → Int32} {xsi : Nat → Int32} {xre : Nat → Nat → Int32} {xcf : Nat → Int32} {xfn : Int32} {xrc : Int32} {n : Nat} {a : Int32} {b : Int32} {P : zP} (hn : nI n = xn) (hp : P (some (.inl (pe n a b))) (CW xfl xn xcap xfs xss xbs xnx xsz xsd xct xpa xla xsi xre xcf xfn xrc)) {Z : zH} (hZ : zcl (tX4_pairError, fX4, gX4, [(134, 1, 2, CX2_hasNode)], [], 1) P Z) : Z ((CW xfl xn xcap xfs xss xbs xnx xsz xsd xct xpa xla xsi xre xcf xfn xrc)) 0 [some (.inr (.inl 0)), some (.inl a), some (.inl b)] [] := by
  refine hZ [] 60 _ _ _ _ ?_
  refine HX2_hasNode hn ?_
  refine bz (fun h1 => ?_) (fun h1 => ?_)
  · rw [pe, if_neg (by rw [h1]; simp)] at hp
    exact hp
  · refine HX2_hasNode hn ?_
    refine bn (fun h2 => ?_) (fun h2 => ?_)
    · rw [pe, if_pos ⟨h1, h2⟩] at hp
      refine And.intro (fun c => ?_) (fun c => ?_)
      · rw [if_neg c] at hp
        exact hp
      · rw [if_pos c] at hp
        exact hp
    · rw [pe, if_neg (by rw [h2]; simp)] at hp
      exact hp
theorem zX4_pairError (l : Launch) : zMet l yX4_pairError cX4_pairError 3 (some .int) rX4_pairError kX4_pairError := zMet_of (by decide) ⟨rfl, rfl⟩ (oX4_pairError l) (fun as0 st0 P h => by
  obtain ⟨xfl, xn, xcap, xfs, xss, xbs, xnx, xsz, xsd, xct, xpa, xla, xsi, xre, xcf, xfn, xrc, n, a, b, h0, rfl, rfl, hz⟩ := h
  exact ⟨Nat.le_of_ble_eq_true rfl, fun Z hZ => wX4_pairError eX2_hasNode h0 hz hZ⟩)

/-- buildAnew() -/
def kX4_buildAnew : zK := fun as0 st0 P => ∃ σ : zS, ∃ a : AS, (cSt a σ) ∧ as0 = [.inr (.inl 0)] ∧ st0 = σ ∧ (∀ σ', cSt (rb a) σ' → P none σ')
def iX4_buildAnew (C0 : zK) : Prop := ∀ {σ : zS} {a : AS} {P : zP}, (cSt a σ) → (∀ σ', cSt (rb a) σ' → P none σ') → C0 [.inr (.inl 0)] (σ) P
theorem eX4_buildAnew : iX4_buildAnew kX4_buildAnew := by
  intro σ a P h0 hz
  exact ⟨σ, a, h0, rfl, rfl, hz⟩
theorem oX4_buildAnew (l : Launch) : zOK l RX4 cX4_buildAnew rX4_buildAnew none (tX4_buildAnew, fX4, gX4, [(146, 0, 1, kX1_growAnew)], [], 0) := ⟨tX4_buildAnew_ok, fX4_ok, gX4_ok, List.forall_mem_cons.mpr ⟨⟨yX1_growAnew, cX1_growAnew, 3, none, rX1_growAnew, zX1_growAnew l, by decide +kernel, ykX1_growAnew, lkX4_146⟩, fun _ h => absurd h List.not_mem_nil⟩, by decide +kernel, rfl⟩
set_option maxRecDepth 100000 in
set_option maxHeartbeats 4000000 in
theorem wX4_buildAnew {CX1_growAnew : zK} (HX1_growAnew : iX1_growAnew CX1_growAnew) {σ : zS} {a : AS} {P : zP} (hσ : cSt a σ) (hp : ∀ σ', cSt (rb a) σ' → P none σ') {Z : zH} (hZ : zcl (tX4_buildAnew, fX4, gX4, [(146, 0, 1, CX1_growAnew)], [], 0) P Z) : Z (σ) 0 [some (.inr (.inl 0))] [] := by
  obtain ⟨n, K, L, F, ob⟩ := a
  obtain ⟨xfl, xn, xcap, xfs, xss, xbs, xnx, xsz, xsd, xct, xpa, xla, xsi, xre, xcf, xfn, xrc, rfl, hG, hR, hF, hT⟩ := hσ
  dsimp only at hG hR hF hT
  refine hZ [] 60 _ _ _ _ ?_
  refine HX1_growAnew hG (fun sd' ct' pa' la' si' re' cf' fn' rc' hT' => ?_)
  have hn := hG.1
  have hn1 := hG.2.1
  refine hp _ (cSt_mk hG hR ?_ hT')
  show F + nI (n - 1) = xfl + (xn - 1)
  obtain ⟨m, rfl⟩ : ∃ m, n = m + 1 := ⟨n - 1, by omega⟩
  rw [hF, ← hn, nI_pred, Nat.add_sub_cancel]
theorem zX4_buildAnew (l : Launch) : zMet l yX4_buildAnew cX4_buildAnew 1 none rX4_buildAnew kX4_buildAnew := zMet_of (by decide) ⟨rfl, rfl⟩ (oX4_buildAnew l) (fun as0 st0 P h => by
  obtain ⟨σ, a, h0, rfl, rfl, hz⟩ := h
  exact ⟨Nat.le_of_ble_eq_true rfl, fun Z hZ => wX4_buildAnew eX1_growAnew h0 hz hZ⟩)

/-- freshen() -/
def kX4_freshen : zK := fun as0 st0 P => ∃ σ : zS, ∃ a : AS, (cSt a σ) ∧ as0 = [.inr (.inl 0)] ∧ st0 = σ ∧ (∀ a' σ', rF a a' → cSt a' σ' → P none σ')
def iX4_freshen (C0 : zK) : Prop := ∀ {σ : zS} {a : AS} {P : zP}, (cSt a σ) → (∀ a' σ', rF a a' → cSt a' σ' → P none σ') → C0 [.inr (.inl 0)] (σ) P
theorem eX4_freshen : iX4_freshen kX4_freshen := by
  intro σ a P h0 hz
  exact ⟨σ, a, h0, rfl, rfl, hz⟩
theorem oX4_freshen (l : Launch) : zOK l RX4 cX4_freshen rX4_freshen none (tX4_freshen, fX4, gX4, [(86, 0, 1, kX1_fitsGraph), (125, 0, 4, kX4_buildAnew)], [], 0) := ⟨tX4_freshen_ok, fX4_ok, gX4_ok, List.forall_mem_cons.mpr ⟨⟨yX1_fitsGraph, cX1_fitsGraph, 3, (some .boolean), rX1_fitsGraph, zX1_fitsGraph l, by decide +kernel, ykX1_fitsGraph, lkX4_86⟩, List.forall_mem_cons.mpr ⟨⟨yX4_buildAnew, cX4_buildAnew, 1, none, rX4_buildAnew, zX4_buildAnew l, by decide +kernel, ykX4_buildAnew, lkX4_125⟩, fun _ h => absurd h List.not_mem_nil⟩⟩, by decide +kernel, rfl⟩
set_option maxRecDepth 100000 in
set_option maxHeartbeats 4000000 in
theorem wX4_freshen {CX1_fitsGraph : zK} (HX1_fitsGraph : iX1_fitsGraph CX1_fitsGraph) {CX4_buildAnew : zK} (HX4_buildAnew : iX4_buildAnew CX4_buildAnew) {σ : zS} {a : AS} {P : zP} (hσ : cSt a σ) (hp : ∀ a' σ', rF a a' → cSt a' σ' → P none σ') {Z : zH} (hZ : zcl (tX4_freshen, fX4, gX4, [(86, 0, 1, CX1_fitsGraph), (125, 0, 4, CX4_buildAnew)], [], 0) P Z) : Z (σ) 0 [some (.inr (.inl 0))] [] := by
  have hσ0 := hσ
  obtain ⟨n, K, L, F, ob⟩ := a
  obtain ⟨xfl, xn, xcap, xfs, xss, xbs, xnx, xsz, xsd, xct, xpa, xla, xsi, xre, xcf, xfn, xrc, rfl, hG, hR, hF, hT⟩ := hσ
  dsimp only at hG hR hF hT
  refine hZ [] 60 _ _ _ _ ?_
  refine HX1_fitsGraph hG hT (fun b hb => ?_)
  refine bn (fun h => ?_) (fun h => ?_)
  · exact hp _ _ (Or.inl ⟨hb.mp h, rfl⟩) hσ0
  · refine HX4_buildAnew hσ0 (fun σ' h' => ?_)
    exact hp _ _ (Or.inr ⟨fun q => (by rw [hb.mpr q] at h; cases h), rfl⟩) h'
theorem zX4_freshen (l : Launch) : zMet l yX4_freshen cX4_freshen 1 none rX4_freshen kX4_freshen := zMet_of (by decide) ⟨rfl, rfl⟩ (oX4_freshen l) (fun as0 st0 P h => by
  obtain ⟨σ, a, h0, rfl, rfl, hz⟩ := h
  exact ⟨Nat.le_of_ble_eq_true rfl, fun Z hZ => wX4_freshen eX1_fitsGraph eX4_buildAnew h0 hz hZ⟩)

/-- makeBoundsMeet(s, t) -/
def kX4_makeBoundsMeet : zK := fun as0 st0 P => ∃ σ : zS, ∃ a : AS, ∃ s : Int32, ∃ t : Int32, ∃ i : Nat, ∃ j : Nat, (cSt a σ) ∧ (okP a.1 s t i j) ∧ as0 = [.inr (.inl 0), .inl s, .inl t] ∧ st0 = σ ∧ (∀ a' σ', rBM i j a a' → cSt a' σ' → P none σ')
def iX4_makeBoundsMeet (C0 : zK) : Prop := ∀ {σ : zS} {a : AS} {s : Int32} {t : Int32} {i : Nat} {j : Nat} {P : zP}, (cSt a σ) → (okP a.1 s t i j) → (∀ a' σ', rBM i j a a' → cSt a' σ' → P none σ') → C0 [.inr (.inl 0), .inl s, .inl t] (σ) P
theorem eX4_makeBoundsMeet : iX4_makeBoundsMeet kX4_makeBoundsMeet := by
  intro σ a s t i j P h0 h1 hz
  exact ⟨σ, a, s, t, i, j, h0, h1, rfl, rfl, hz⟩
theorem oX4_makeBoundsMeet (l : Launch) : zOK l RX4 cX4_makeBoundsMeet rX4_makeBoundsMeet none (tX4_makeBoundsMeet, fX4, gX4, [(109, 2, 1, kX1_atLeast), (112, 2, 1, kX1_atMost), (125, 0, 4, kX4_buildAnew)], [], 0) := ⟨tX4_makeBoundsMeet_ok, fX4_ok, gX4_ok, List.forall_mem_cons.mpr ⟨⟨yX1_atLeast, cX1_atLeast, 3, (some .int), rX1_atLeast, zX1_atLeast l, by decide +kernel, ykX1_atLeast, lkX4_109⟩, List.forall_mem_cons.mpr ⟨⟨yX1_atMost, cX1_atMost, 3, (some .int), rX1_atMost, zX1_atMost l, by decide +kernel, ykX1_atMost, lkX4_112⟩, List.forall_mem_cons.mpr ⟨⟨yX4_buildAnew, cX4_buildAnew, 1, none, rX4_buildAnew, zX4_buildAnew l, by decide +kernel, ykX4_buildAnew, lkX4_125⟩, fun _ h => absurd h List.not_mem_nil⟩⟩⟩, by decide +kernel, rfl⟩
set_option maxRecDepth 100000 in
set_option maxHeartbeats 4000000 in
theorem wX4_makeBoundsMeet {CX1_atLeast : zK} (HX1_atLeast : iX1_atLeast CX1_atLeast) {CX1_atMost : zK} (HX1_atMost : iX1_atMost CX1_atMost) {CX4_buildAnew : zK} (HX4_buildAnew : iX4_buildAnew CX4_buildAnew) {σ : zS} {a : AS} {s : Int32} {t : Int32} {i : Nat} {j : Nat} {P : zP} (hσ : cSt a σ) (hij : okP a.1 s t i j) (hp : ∀ a' σ', rBM i j a a' → cSt a' σ' → P none σ') {Z : zH} (hZ : zcl (tX4_makeBoundsMeet, fX4, gX4, [(109, 2, 1, CX1_atLeast), (112, 2, 1, CX1_atMost), (125, 0, 4, CX4_buildAnew)], [], 0) P Z) : Z (σ) 0 [some (.inr (.inl 0)), some (.inl s), some (.inl t)] [] := by
  have hσ0 := hσ
  obtain ⟨n, K, L, F, ob⟩ := a
  obtain ⟨xfl, xn, xcap, xfs, xss, xbs, xnx, xsz, xsd, xct, xpa, xla, xsi, xre, xcf, xfn, xrc, rfl, hG, hR, hF, hT⟩ := hσ
  obtain ⟨hi, hj, hne, hs, ht⟩ := hij
  dsimp only at hG hR hF hT hi hj
  refine hZ [] 60 _ _ _ _ ?_
  rcases cT_0 hT with ⟨e, e2⟩ | ⟨e, B, e2⟩
  · refine And.intro (fun _ => ?_) (fun c => absurd e c)
    refine HX4_buildAnew hσ0 (fun σ' h' => ?_)
    exact hp _ _ (Or.inr ⟨fun q => (by obtain ⟨B, q, -⟩ := q; rw [e2] at q; cases q), rfl⟩) h'
  · refine And.intro (fun c => absurd c (by rw [e]; decide)) (fun _ => ?_)
    rw [e2] at hT
    have hB := (cT_some hT).2.1
    have b1 := lm_le (n := n) (p := tp n B) (tl_le hB.1 hG.2.2.1) i j
    have b2 := lw_le (p := tp n B) hG.2.2.2.2.1 hG.2.2.1 i j
    refine HX1_atLeast hG hT hs ht hi hj hne ?_
    refine HX1_atMost hG hT hs ht hi hj hne ?_
    refine pk_eq (lm n (tp n B) (tl n B) i j - los n B K) (lw n (tp n B) K i j) (fun c => ?_) (fun c => ?_)
    · exact hp _ _ (Or.inl ⟨⟨B, e2, c⟩, rfl⟩) hσ0
    · refine HX4_buildAnew hσ0 (fun σ' h' => ?_)
      exact hp _ _ (Or.inr ⟨fun q => (by obtain ⟨B', q, q2⟩ := q; rw [e2] at q; cases q; exact c q2), rfl⟩) h'
theorem zX4_makeBoundsMeet (l : Launch) : zMet l yX4_makeBoundsMeet cX4_makeBoundsMeet 3 none rX4_makeBoundsMeet kX4_makeBoundsMeet := zMet_of (by decide) ⟨rfl, rfl⟩ (oX4_makeBoundsMeet l) (fun as0 st0 P h => by
  obtain ⟨σ, a, s, t, i, j, h0, h1, rfl, rfl, hz⟩ := h
  exact ⟨Nat.le_of_ble_eq_true rfl, fun Z hZ => wX4_makeBoundsMeet eX1_atLeast eX1_atMost eX4_buildAnew h0 h1 hz hZ⟩)

/-- storedPairError(s, t) -/
def kX4_storedPairError : zK := fun as0 st0 P => ∃ xfl : Int32, ∃ xn : Int32, ∃ xcap : Nat → Nat → Int32, ∃ xfs : Nat → Int32, ∃ xss : Nat → Int32, ∃ xbs : Nat → Int32, ∃ xnx : Int32, ∃ xsz : Int32, ∃ xsd : Int32, ∃ xct : Nat → Nat → Int32, ∃ xpa : Nat → Int32, ∃ xla : Nat → Int32, ∃ xsi : Nat → Int32, ∃ xre : Nat → Nat → Int32, ∃ xcf : Nat → Int32, ∃ xfn : Int32, ∃ xrc : Int32, ∃ n : Nat, ∃ a : Int32, ∃ b : Int32, ∃ ob : Option (Nat → Nat → Nat), (nI n = xn) ∧ (cT n xsd xct xpa xla xsi ob) ∧ as0 = [.inr (.inl 0), .inl a, .inl b] ∧ st0 = (CW xfl xn xcap xfs xss xbs xnx xsz xsd xct xpa xla xsi xre xcf xfn xrc) ∧ ((pe n a b ≠ 0 → P (some (.inl (pe n a b))) (CW xfl xn xcap xfs xss xbs xnx xsz xsd xct xpa xla xsi xre xcf xfn xrc)) ∧ (pe n a b = 0 → (ob = none → P (some (.inl (-4))) (CW xfl xn xcap xfs xss xbs xnx xsz xsd xct xpa xla xsi xre xcf xfn xrc)) ∧ (∀ B, ob = some B → P (some (.inl 0)) (CW xfl xn xcap xfs xss xbs xnx xsz xsd xct xpa xla xsi xre xcf xfn xrc))))
def iX4_storedPairError (C0 : zK) : Prop := ∀ {xfl : Int32} {xn : Int32} {xcap : Nat → Nat → Int32} {xfs : Nat → Int32} {xss : Nat → Int32} {xbs : Nat → Int32} {xnx : Int32} {xsz : Int32} {xsd : Int32} {xct : Nat → Nat → Int32} {xpa : Nat → Int32} {xla : Nat → Int32} {xsi : Nat → Int32} {xre : Nat → Nat → Int32} {xcf : Nat → Int32} {xfn : Int32} {xrc : Int32} {n : Nat} {a : Int32} {b : Int32} {ob : Option (Nat → Nat → Nat)} {P : zP}, (nI n = xn) → (cT n xsd xct xpa xla xsi ob) → ((pe n a b ≠ 0 → P (some (.inl (pe n a b))) (CW xfl xn xcap xfs xss xbs xnx xsz xsd xct xpa xla xsi xre xcf xfn xrc)) ∧ (pe n a b = 0 → (ob = none → P (some (.inl (-4))) (CW xfl xn xcap xfs xss xbs xnx xsz xsd xct xpa xla xsi xre xcf xfn xrc)) ∧ (∀ B, ob = some B → P (some (.inl 0)) (CW xfl xn xcap xfs xss xbs xnx xsz xsd xct xpa xla xsi xre xcf xfn xrc)))) → C0 [.inr (.inl 0), .inl a, .inl b] ((CW xfl xn xcap xfs xss xbs xnx xsz xsd xct xpa xla xsi xre xcf xfn xrc)) P
theorem eX4_storedPairError : iX4_storedPairError kX4_storedPairError := by
  intro xfl xn xcap xfs xss xbs xnx xsz xsd xct xpa xla xsi xre xcf xfn xrc n a b ob P h0 h1 hz
  exact ⟨xfl, xn, xcap, xfs, xss, xbs, xnx, xsz, xsd, xct, xpa, xla, xsi, xre, xcf, xfn, xrc, n, a, b, ob, h0, h1, rfl, rfl, hz⟩
theorem oX4_storedPairError (l : Launch) : zOK l RX4 cX4_storedPairError rX4_storedPairError (some .int) (tX4_storedPairError, fX4, gX4, [(51, 2, 4, kX4_pairError)], [], 1) := ⟨tX4_storedPairError_ok, fX4_ok, gX4_ok, List.forall_mem_cons.mpr ⟨⟨yX4_pairError, cX4_pairError, 3, (some .int), rX4_pairError, zX4_pairError l, by decide +kernel, ykX4_pairError, lkX4_51⟩, fun _ h => absurd h List.not_mem_nil⟩, by decide +kernel, rfl⟩
set_option maxRecDepth 100000 in
set_option maxHeartbeats 4000000 in
theorem wX4_storedPairError {CX4_pairError : zK} (HX4_pairError : iX4_pairError CX4_pairError) {xfl : Int32} {xn : Int32} {xcap : Nat → Nat → Int32} {xfs : Nat → Int32} {xss : Nat → Int32} {xbs : Nat → Int32} {xnx : Int32} {xsz : Int32} {xsd : Int32} {xct : Nat → Nat → Int32} {xpa : Nat → Int32} {xla : Nat → Int32} {xsi : Nat → Int32} {xre : Nat → Nat → Int32} {xcf : Nat → Int32} {xfn : Int32} {xrc : Int32} {n : Nat} {a : Int32} {b : Int32} {ob : Option (Nat → Nat → Nat)} {P : zP} (hn : nI n = xn) (hT : cT n xsd xct xpa xla xsi ob) (hp : (pe n a b ≠ 0 → P (some (.inl (pe n a b))) (CW xfl xn xcap xfs xss xbs xnx xsz xsd xct xpa xla xsi xre xcf xfn xrc)) ∧ (pe n a b = 0 → (ob = none → P (some (.inl (-4))) (CW xfl xn xcap xfs xss xbs xnx xsz xsd xct xpa xla xsi xre xcf xfn xrc)) ∧ (∀ B, ob = some B → P (some (.inl 0)) (CW xfl xn xcap xfs xss xbs xnx xsz xsd xct xpa xla xsi xre xcf xfn xrc)))) {Z : zH} (hZ : zcl (tX4_storedPairError, fX4, gX4, [(51, 2, 4, CX4_pairError)], [], 1) P Z) : Z ((CW xfl xn xcap xfs xss xbs xnx xsz xsd xct xpa xla xsi xre xcf xfn xrc)) 0 [some (.inr (.inl 0)), some (.inl a), some (.inl b), none] [] := by
  refine hZ [] 60 _ _ _ _ ?_
  refine HX4_pairError hn ?_
  refine And.intro (fun c => ?_) (fun c => ?_)
  · have h9 := hp.2 c
    rcases cT_0 hT with ⟨e, e2⟩ | ⟨e, B, e2⟩
    · exact And.intro (fun _ => h9.1 e2) (fun c => absurd e c)
    · exact And.intro (fun c => absurd c (by rw [e]; decide)) (fun _ => h9.2 B e2)
  · exact hp.1 c
theorem zX4_storedPairError (l : Launch) : zMet l yX4_storedPairError cX4_storedPairError 4 (some .int) rX4_storedPairError kX4_storedPairError := zMet_of (by decide) ⟨rfl, rfl⟩ (oX4_storedPairError l) (fun as0 st0 P h => by
  obtain ⟨xfl, xn, xcap, xfs, xss, xbs, xnx, xsz, xsd, xct, xpa, xla, xsi, xre, xcf, xfn, xrc, n, a, b, ob, h0, h1, rfl, rfl, hz⟩ := h
  exact ⟨Nat.le_of_ble_eq_true rfl, fun Z hZ => wX4_storedPairError eX4_pairError h0 h1 hz hZ⟩)

/-- storedNodeError(k) -/
def kX4_storedNodeError : zK := fun as0 st0 P => ∃ xfl : Int32, ∃ xn : Int32, ∃ xcap : Nat → Nat → Int32, ∃ xfs : Nat → Int32, ∃ xss : Nat → Int32, ∃ xbs : Nat → Int32, ∃ xnx : Int32, ∃ xsz : Int32, ∃ xsd : Int32, ∃ xct : Nat → Nat → Int32, ∃ xpa : Nat → Int32, ∃ xla : Nat → Int32, ∃ xsi : Nat → Int32, ∃ xre : Nat → Nat → Int32, ∃ xcf : Nat → Int32, ∃ xfn : Int32, ∃ xrc : Int32, ∃ n : Nat, ∃ a : Int32, ∃ ob : Option (Nat → Nat → Nat), (nI n = xn) ∧ (cT n xsd xct xpa xla xsi ob) ∧ as0 = [.inr (.inl 0), .inl a] ∧ st0 = (CW xfl xn xcap xfs xss xbs xnx xsz xsd xct xpa xla xsi xre xcf xfn xrc) ∧ ((okN n a = false → P (some (.inl (-1))) (CW xfl xn xcap xfs xss xbs xnx xsz xsd xct xpa xla xsi xre xcf xfn xrc)) ∧ (okN n a = true → (ob = none → P (some (.inl (-4))) (CW xfl xn xcap xfs xss xbs xnx xsz xsd xct xpa xla xsi xre xcf xfn xrc)) ∧ (∀ B, ob = some B → P (some (.inl 0)) (CW xfl xn xcap xfs xss xbs xnx xsz xsd xct xpa xla xsi xre xcf xfn xrc))))
def iX4_storedNodeError (C0 : zK) : Prop := ∀ {xfl : Int32} {xn : Int32} {xcap : Nat → Nat → Int32} {xfs : Nat → Int32} {xss : Nat → Int32} {xbs : Nat → Int32} {xnx : Int32} {xsz : Int32} {xsd : Int32} {xct : Nat → Nat → Int32} {xpa : Nat → Int32} {xla : Nat → Int32} {xsi : Nat → Int32} {xre : Nat → Nat → Int32} {xcf : Nat → Int32} {xfn : Int32} {xrc : Int32} {n : Nat} {a : Int32} {ob : Option (Nat → Nat → Nat)} {P : zP}, (nI n = xn) → (cT n xsd xct xpa xla xsi ob) → ((okN n a = false → P (some (.inl (-1))) (CW xfl xn xcap xfs xss xbs xnx xsz xsd xct xpa xla xsi xre xcf xfn xrc)) ∧ (okN n a = true → (ob = none → P (some (.inl (-4))) (CW xfl xn xcap xfs xss xbs xnx xsz xsd xct xpa xla xsi xre xcf xfn xrc)) ∧ (∀ B, ob = some B → P (some (.inl 0)) (CW xfl xn xcap xfs xss xbs xnx xsz xsd xct xpa xla xsi xre xcf xfn xrc)))) → C0 [.inr (.inl 0), .inl a] ((CW xfl xn xcap xfs xss xbs xnx xsz xsd xct xpa xla xsi xre xcf xfn xrc)) P
theorem eX4_storedNodeError : iX4_storedNodeError kX4_storedNodeError := by
  intro xfl xn xcap xfs xss xbs xnx xsz xsd xct xpa xla xsi xre xcf xfn xrc n a ob P h0 h1 hz
  exact ⟨xfl, xn, xcap, xfs, xss, xbs, xnx, xsz, xsd, xct, xpa, xla, xsi, xre, xcf, xfn, xrc, n, a, ob, h0, h1, rfl, rfl, hz⟩
theorem oX4_storedNodeError (l : Launch) : zOK l RX4 cX4_storedNodeError rX4_storedNodeError (some .int) (tX4_storedNodeError, fX4, gX4, [(134, 1, 2, kX2_hasNode)], [], 1) := ⟨tX4_storedNodeError_ok, fX4_ok, gX4_ok, List.forall_mem_cons.mpr ⟨⟨yX2_hasNode, cX2_hasNode, 2, (some .boolean), rX2_hasNode, zX2_hasNode l, by decide +kernel, ykX2_hasNode, lkX4_134⟩, fun _ h => absurd h List.not_mem_nil⟩, by decide +kernel, rfl⟩
set_option maxRecDepth 100000 in
set_option maxHeartbeats 4000000 in
theorem wX4_storedNodeError {CX2_hasNode : zK} (HX2_hasNode : iX2_hasNode CX2_hasNode) {xfl : Int32} {xn : Int32} {xcap : Nat → Nat → Int32} {xfs : Nat → Int32} {xss : Nat → Int32} {xbs : Nat → Int32} {xnx : Int32} {xsz : Int32} {xsd : Int32} {xct : Nat → Nat → Int32} {xpa : Nat → Int32} {xla : Nat → Int32} {xsi : Nat → Int32} {xre : Nat → Nat → Int32} {xcf : Nat → Int32} {xfn : Int32} {xrc : Int32} {n : Nat} {a : Int32} {ob : Option (Nat → Nat → Nat)} {P : zP} (hn : nI n = xn) (hT : cT n xsd xct xpa xla xsi ob) (hp : (okN n a = false → P (some (.inl (-1))) (CW xfl xn xcap xfs xss xbs xnx xsz xsd xct xpa xla xsi xre xcf xfn xrc)) ∧ (okN n a = true → (ob = none → P (some (.inl (-4))) (CW xfl xn xcap xfs xss xbs xnx xsz xsd xct xpa xla xsi xre xcf xfn xrc)) ∧ (∀ B, ob = some B → P (some (.inl 0)) (CW xfl xn xcap xfs xss xbs xnx xsz xsd xct xpa xla xsi xre xcf xfn xrc)))) {Z : zH} (hZ : zcl (tX4_storedNodeError, fX4, gX4, [(134, 1, 2, CX2_hasNode)], [], 1) P Z) : Z ((CW xfl xn xcap xfs xss xbs xnx xsz xsd xct xpa xla xsi xre xcf xfn xrc)) 0 [some (.inr (.inl 0)), some (.inl a)] [] := by
  refine hZ [] 60 _ _ _ _ ?_
  refine HX2_hasNode hn ?_
  refine bn (fun h => ?_) (fun h => ?_)
  · have h9 := hp.2 h
    rcases cT_0 hT with ⟨e, e2⟩ | ⟨e, B, e2⟩
    · exact And.intro (fun _ => h9.1 e2) (fun c => absurd e c)
    · exact And.intro (fun c => absurd c (by rw [e]; decide)) (fun _ => h9.2 B e2)
  · exact hp.1 h
theorem zX4_storedNodeError (l : Launch) : zMet l yX4_storedNodeError cX4_storedNodeError 2 (some .int) rX4_storedNodeError kX4_storedNodeError := zMet_of (by decide) ⟨rfl, rfl⟩ (oX4_storedNodeError l) (fun as0 st0 P h => by
  obtain ⟨xfl, xn, xcap, xfs, xss, xbs, xnx, xsz, xsd, xct, xpa, xla, xsi, xre, xcf, xfn, xrc, n, a, ob, h0, h1, rfl, rfl, hz⟩ := h
  exact ⟨Nat.le_of_ble_eq_true rfl, fun Z hZ => wX4_storedNodeError eX2_hasNode h0 h1 hz hZ⟩)

