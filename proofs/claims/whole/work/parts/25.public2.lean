/-! THE KEEPER'S PUBLIC METHODS, second half. -/
theorem rF_some {a a' : AS} (h : rF a a') : a'.1 = a.1 ∧ a'.2.1 = a.2.1 ∧ a'.2.2.2.2 = some a.2.1 := by
  rcases h with ⟨h, rfl⟩ | ⟨-, rfl⟩
  · exact ⟨rfl, rfl, h⟩
  · exact ⟨rfl, rfl, rfl⟩
theorem rBM_some {i j : Nat} {a a' : AS} (h : rBM i j a a') : a'.1 = a.1 ∧ a'.2.1 = a.2.1 ∧ ∃ B, a'.2.2.2.2 = some B := by
  rcases h with ⟨⟨B, h, -⟩, rfl⟩ | ⟨-, rfl⟩
  · exact ⟨rfl, rfl, B, h⟩
  · exact ⟨rfl, rfl, _, rfl⟩
/-- minimumCut(s, t) -/
def kX4_minimumCut : zK := fun as0 st0 P => ∃ σ : zS, ∃ a : AS, ∃ s : Int32, ∃ t : Int32, (cSt a σ) ∧ as0 = [.inr (.inl 0), .inl s, .inl t] ∧ st0 = σ ∧ (∀ r a' σ', rMin s t a r a' → cSt a' σ' → P (some (.inl r)) σ')
def iX4_minimumCut (C0 : zK) : Prop := ∀ {σ : zS} {a : AS} {s : Int32} {t : Int32} {P : zP}, (cSt a σ) → (∀ r a' σ', rMin s t a r a' → cSt a' σ' → P (some (.inl r)) σ') → C0 [.inr (.inl 0), .inl s, .inl t] (σ) P
theorem eX4_minimumCut : iX4_minimumCut kX4_minimumCut := by
  intro σ a s t P h0 hz
  exact ⟨σ, a, s, t, h0, rfl, rfl, hz⟩
theorem oX4_minimumCut (l : Launch) : zOK l RX4 cX4_minimumCut rX4_minimumCut (some .int) (tX4_minimumCut, fX4, gX4, [(51, 2, 4, kX4_pairError), (115, 2, 4, kX4_makeBoundsMeet), (112, 2, 1, kX1_atMost)], [], 1) := ⟨tX4_minimumCut_ok, fX4_ok, gX4_ok, List.forall_mem_cons.mpr ⟨⟨yX4_pairError, cX4_pairError, 3, (some .int), rX4_pairError, zX4_pairError l, by decide +kernel, ykX4_pairError, lkX4_51⟩, List.forall_mem_cons.mpr ⟨⟨yX4_makeBoundsMeet, cX4_makeBoundsMeet, 3, none, rX4_makeBoundsMeet, zX4_makeBoundsMeet l, by decide +kernel, ykX4_makeBoundsMeet, lkX4_115⟩, List.forall_mem_cons.mpr ⟨⟨yX1_atMost, cX1_atMost, 3, (some .int), rX1_atMost, zX1_atMost l, by decide +kernel, ykX1_atMost, lkX4_112⟩, fun _ h => absurd h List.not_mem_nil⟩⟩⟩, by decide +kernel, rfl⟩
set_option maxRecDepth 100000 in
set_option maxHeartbeats 4000000 in
theorem wX4_minimumCut {CX4_pairError : zK} (HX4_pairError : iX4_pairError CX4_pairError) {CX4_makeBoundsMeet : zK} (HX4_makeBoundsMeet : iX4_makeBoundsMeet CX4_makeBoundsMeet) {CX1_atMost : zK} (HX1_atMost : iX1_atMost CX1_atMost) {σ : zS} {a : AS} {s : Int32} {t : Int32} {P : zP} (hσ : cSt a σ) (hp : ∀ r a' σ', rMin s t a r a' → cSt a' σ' → P (some (.inl r)) σ') {Z : zH} (hZ : zcl (tX4_minimumCut, fX4, gX4, [(51, 2, 4, CX4_pairError), (115, 2, 4, CX4_makeBoundsMeet), (112, 2, 1, CX1_atMost)], [], 1) P Z) : Z (σ) 0 [some (.inr (.inl 0)), some (.inl s), some (.inl t), none] [] := by
  have hσ0 := hσ
  obtain ⟨n, K, L, F, ob⟩ := a
  obtain ⟨xfl, xn, xcap, xfs, xss, xbs, xnx, xsz, xsd, xct, xpa, xla, xsi, xre, xcf, xfn, xrc, rfl, hG, hR, hF, hT⟩ := hσ
  dsimp only at hG hR hF hT
  have hn2 := hG.2.2.1
  refine hZ [] 90 _ _ _ _ ?_
  refine HX4_pairError hG.1 ?_
  rcases pe_spec hn2 s t with e | ⟨e, i, j, hi, hj, hij, rfl, rfl⟩
  · refine And.intro (fun c => absurd c e) (fun _ => ?_)
    exact hp _ _ _ (Or.inl ⟨e, rfl, rfl⟩) hσ0
  · refine And.intro (fun _ => ?_) (fun c => absurd e c)
    refine HX4_makeBoundsMeet hσ0 ⟨hi, hj, hij, rfl, rfl⟩ (fun a' σ' hbm hc => ?_)
    have hc0 := hc
    obtain ⟨q1, q2, B, q3⟩ := rBM_some hbm
    obtain ⟨n', K', L', F', ob'⟩ := a'
    obtain ⟨zfl, zn, zcap, zfs, zss, zbs, znx, zsz, zsd, zct, zpa, zla, zsi, zre, zcf, zfn, zrc, rfl, hG', hR', hF', hT'⟩ := hc
    dsimp only at hG' hR' hF' hT'
    dsimp only at q1 q2 q3
    subst q1; subst q2; subst q3
    refine HX1_atMost hG' hT' rfl rfl hi hj hij ?_
    exact hp _ _ _ (Or.inr ⟨i, j, B, ⟨hi, hj, hij, rfl, rfl⟩, hbm, rfl, rfl⟩) hc0
theorem zX4_minimumCut (l : Launch) : zMet l yX4_minimumCut cX4_minimumCut 4 (some .int) rX4_minimumCut kX4_minimumCut := zMet_of (by decide) ⟨rfl, rfl⟩ (oX4_minimumCut l) (fun as0 st0 P h => by
  obtain ⟨σ, a, s, t, h0, rfl, rfl, hz⟩ := h
  exact ⟨Nat.le_of_ble_eq_true rfl, fun Z hZ => wX4_minimumCut eX4_pairError eX4_makeBoundsMeet eX1_atMost h0 hz hZ⟩)

/-- witness(s, t) -/
def kX4_witness : zK := fun as0 st0 P => ∃ σ : zS, ∃ a : AS, ∃ s : Int32, ∃ t : Int32, (cSt a σ) ∧ as0 = [.inr (.inl 0), .inl s, .inl t] ∧ st0 = σ ∧ (∀ r a' σ', rWit s t a r a' → cSt a' σ' → P (some (.inl r)) σ')
def iX4_witness (C0 : zK) : Prop := ∀ {σ : zS} {a : AS} {s : Int32} {t : Int32} {P : zP}, (cSt a σ) → (∀ r a' σ', rWit s t a r a' → cSt a' σ' → P (some (.inl r)) σ') → C0 [.inr (.inl 0), .inl s, .inl t] (σ) P
theorem eX4_witness : iX4_witness kX4_witness := by
  intro σ a s t P h0 hz
  exact ⟨σ, a, s, t, h0, rfl, rfl, hz⟩
theorem oX4_witness (l : Launch) : zOK l RX4 cX4_witness rX4_witness (some .int) (tX4_witness, fX4, gX4, [(51, 2, 4, kX4_pairError), (115, 2, 4, kX4_makeBoundsMeet), (119, 2, 1, kX1_lightestCutOnWay)], [], 1) := ⟨tX4_witness_ok, fX4_ok, gX4_ok, List.forall_mem_cons.mpr ⟨⟨yX4_pairError, cX4_pairError, 3, (some .int), rX4_pairError, zX4_pairError l, by decide +kernel, ykX4_pairError, lkX4_51⟩, List.forall_mem_cons.mpr ⟨⟨yX4_makeBoundsMeet, cX4_makeBoundsMeet, 3, none, rX4_makeBoundsMeet, zX4_makeBoundsMeet l, by decide +kernel, ykX4_makeBoundsMeet, lkX4_115⟩, List.forall_mem_cons.mpr ⟨⟨yX1_lightestCutOnWay, cX1_lightestCutOnWay, 4, (some .int), rX1_lightestCutOnWay, zX1_lightestCutOnWay l, by decide +kernel, ykX1_lightestCutOnWay, lkX4_119⟩, fun _ h => absurd h List.not_mem_nil⟩⟩⟩, by decide +kernel, rfl⟩
set_option maxRecDepth 100000 in
set_option maxHeartbeats 4000000 in
theorem wX4_witness {CX4_pairError : zK} (HX4_pairError : iX4_pairError CX4_pairError) {CX4_makeBoundsMeet : zK} (HX4_makeBoundsMeet : iX4_makeBoundsMeet CX4_makeBoundsMeet) {CX1_lightestCutOnWay : zK} (HX1_lightestCutOnWay : iX1_lightestCutOnWay CX1_lightestCutOnWay) {σ : zS} {a : AS} {s : Int32} {t : Int32} {P : zP} (hσ : cSt a σ) (hp : ∀ r a' σ', rWit s t a r a' → cSt a' σ' → P (some (.inl r)) σ') {Z : zH} (hZ : zcl (tX4_witness, fX4, gX4, [(51, 2, 4, CX4_pairError), (115, 2, 4, CX4_makeBoundsMeet), (119, 2, 1, CX1_lightestCutOnWay)], [], 1) P Z) : Z (σ) 0 [some (.inr (.inl 0)), some (.inl s), some (.inl t), none] [] := by
  have hσ0 := hσ
  obtain ⟨n, K, L, F, ob⟩ := a
  obtain ⟨xfl, xn, xcap, xfs, xss, xbs, xnx, xsz, xsd, xct, xpa, xla, xsi, xre, xcf, xfn, xrc, rfl, hG, hR, hF, hT⟩ := hσ
  dsimp only at hG hR hF hT
  have hn2 := hG.2.2.1
  refine hZ [] 90 _ _ _ _ ?_
  refine HX4_pairError hG.1 ?_
  rcases pe_spec hn2 s t with e | ⟨e, i, j, hi, hj, hij, rfl, rfl⟩
  · refine And.intro (fun c => absurd c e) (fun _ => ?_)
    exact hp _ _ _ (Or.inl ⟨e, rfl, rfl⟩) hσ0
  · refine And.intro (fun _ => ?_) (fun c => absurd e c)
    refine HX4_makeBoundsMeet hσ0 ⟨hi, hj, hij, rfl, rfl⟩ (fun a' σ' hbm hc => ?_)
    have hc0 := hc
    obtain ⟨q1, q2, B, q3⟩ := rBM_some hbm
    obtain ⟨n', K', L', F', ob'⟩ := a'
    obtain ⟨zfl, zn, zcap, zfs, zss, zbs, znx, zsz, zsd, zct, zpa, zla, zsi, zre, zcf, zfn, zrc, rfl, hG', hR', hF', hT'⟩ := hc
    dsimp only at hG' hR' hF' hT'
    dsimp only at q1 q2 q3
    subst q1; subst q2; subst q3
    refine HX1_lightestCutOnWay hG' hT' rfl rfl hi hj hij (fun q hq => ?_)
    exact hp _ _ _ (Or.inr ⟨i, j, B, q, ⟨hi, hj, hij, rfl, rfl⟩, hbm, rfl, hq, rfl⟩) hc0
theorem zX4_witness (l : Launch) : zMet l yX4_witness cX4_witness 4 (some .int) rX4_witness kX4_witness := zMet_of (by decide) ⟨rfl, rfl⟩ (oX4_witness l) (fun as0 st0 P h => by
  obtain ⟨σ, a, s, t, h0, rfl, rfl, hz⟩ := h
  exact ⟨Nat.le_of_ble_eq_true rfl, fun Z hZ => wX4_witness eX4_pairError eX4_makeBoundsMeet eX1_lightestCutOnWay h0 hz hZ⟩)

/-- isAtLeast(s, t, l) -/
def kX4_isAtLeast : zK := fun as0 st0 P => ∃ σ : zS, ∃ a : AS, ∃ s : Int32, ∃ t : Int32, ∃ l : Int32, (cSt a σ) ∧ as0 = [.inr (.inl 0), .inl s, .inl t, .inl l] ∧ st0 = σ ∧ (∀ r a' σ', rAt s t l a r a' → cSt a' σ' → P (some (.inl r)) σ')
def iX4_isAtLeast (C0 : zK) : Prop := ∀ {σ : zS} {a : AS} {s : Int32} {t : Int32} {l : Int32} {P : zP}, (cSt a σ) → (∀ r a' σ', rAt s t l a r a' → cSt a' σ' → P (some (.inl r)) σ') → C0 [.inr (.inl 0), .inl s, .inl t, .inl l] (σ) P
theorem eX4_isAtLeast : iX4_isAtLeast kX4_isAtLeast := by
  intro σ a s t l P h0 hz
  exact ⟨σ, a, s, t, l, h0, rfl, rfl, hz⟩
theorem oX4_isAtLeast (l : Launch) : zOK l RX4 cX4_isAtLeast rX4_isAtLeast (some .int) (tX4_isAtLeast, fX4, gX4, [(51, 2, 4, kX4_pairError), (122, 1, 100, kX4_isLimit), (109, 2, 1, kX1_atLeast), (112, 2, 1, kX1_atMost), (125, 0, 4, kX4_buildAnew)], [], 1) := ⟨tX4_isAtLeast_ok, fX4_ok, gX4_ok, List.forall_mem_cons.mpr ⟨⟨yX4_pairError, cX4_pairError, 3, (some .int), rX4_pairError, zX4_pairError l, by decide +kernel, ykX4_pairError, lkX4_51⟩, List.forall_mem_cons.mpr ⟨⟨yX4_isLimit, cX4_isLimit, 1, (some .boolean), rX4_isLimit, zX4_isLimit l, by decide +kernel, ykX4_isLimit, lkX4_122⟩, List.forall_mem_cons.mpr ⟨⟨yX1_atLeast, cX1_atLeast, 3, (some .int), rX1_atLeast, zX1_atLeast l, by decide +kernel, ykX1_atLeast, lkX4_109⟩, List.forall_mem_cons.mpr ⟨⟨yX1_atMost, cX1_atMost, 3, (some .int), rX1_atMost, zX1_atMost l, by decide +kernel, ykX1_atMost, lkX4_112⟩, List.forall_mem_cons.mpr ⟨⟨yX4_buildAnew, cX4_buildAnew, 1, none, rX4_buildAnew, zX4_buildAnew l, by decide +kernel, ykX4_buildAnew, lkX4_125⟩, fun _ h => absurd h List.not_mem_nil⟩⟩⟩⟩⟩, by decide +kernel, rfl⟩
set_option maxRecDepth 100000 in
set_option maxHeartbeats 4000000 in
theorem wX4_isAtLeast {CX4_pairError : zK} (HX4_pairError : iX4_pairError CX4_pairError) {CX4_isLimit : zK} (HX4_isLimit : iX4_isLimit CX4_isLimit) {CX1_atLeast : zK} (HX1_atLeast : iX1_atLeast CX1_atLeast) {CX1_atMost : zK} (HX1_atMost : iX1_atMost CX1_atMost) {CX4_buildAnew : zK} (HX4_buildAnew : iX4_buildAnew CX4_buildAnew) {σ : zS} {a : AS} {s : Int32} {t : Int32} {l : Int32} {P : zP} (hσ : cSt a σ) (hp : ∀ r a' σ', rAt s t l a r a' → cSt a' σ' → P (some (.inl r)) σ') {Z : zH} (hZ : zcl (tX4_isAtLeast, fX4, gX4, [(51, 2, 4, CX4_pairError), (122, 1, 100, CX4_isLimit), (109, 2, 1, CX1_atLeast), (112, 2, 1, CX1_atMost), (125, 0, 4, CX4_buildAnew)], [], 1) P Z) : Z (σ) 0 [some (.inr (.inl 0)), some (.inl s), some (.inl t), some (.inl l), none] [] := by
  have hσ0 := hσ
  obtain ⟨n, K, L, F, ob⟩ := a
  obtain ⟨xfl, xn, xcap, xfs, xss, xbs, xnx, xsz, xsd, xct, xpa, xla, xsi, xre, xcf, xfn, xrc, rfl, hG, hR, hF, hT⟩ := hσ
  dsimp only at hG hR hF hT
  have hn2 := hG.2.2.1
  refine hZ [66] 90 _ _ _ _ ?_
  refine HX4_pairError hG.1 ?_
  rcases pe_spec hn2 s t with e | ⟨e, i, j, hi, hj, hij, rfl, rfl⟩
  · refine And.intro (fun c => absurd c e) (fun _ => ?_)
    exact hp _ _ _ (Or.inl ⟨e, rfl, rfl⟩) hσ0
  · refine And.intro (fun _ => ?_) (fun c => absurd e c)
    refine HX4_isLimit ?_
    refine bn (fun hl => ?_) (fun hl => ?_)
    · obtain ⟨m, hm, rfl⟩ := okLim_of hl
      have fin : ∀ a' σ', rAB i j m (n, K, L, F, ob) a' → cSt a' σ' → Z σ' 66 [some (.inr (.inl 0)), some (.inl (nI i)), some (.inl (nI j)), some (.inl (nI m)), some (.inl (pe n (nI i) (nI j)))] [] := by
        intro a' σ' hab hc
        have hc0 := hc
        have hq : a'.1 = n ∧ a'.2.1 = K ∧ ∃ B, a'.2.2.2.2 = some B := by
          rcases hab with ⟨⟨B, h, -⟩, rfl⟩ | ⟨-, rfl⟩
          · exact ⟨rfl, rfl, B, h⟩
          · exact ⟨rfl, rfl, _, rfl⟩
        obtain ⟨q1, q2, B, q3⟩ := hq
        obtain ⟨n', K', L', F', ob'⟩ := a'
        obtain ⟨zfl, zn, zcap, zfs, zss, zbs, znx, zsz, zsd, zct, zpa, zla, zsi, zre, zcf, zfn, zrc, rfl, hG', hR', hF', hT'⟩ := hc
        dsimp only at hG' hR' hF' hT'
        dsimp only at q1 q2 q3
        subst q1; subst q2; subst q3
        have hB := (cT_some hT').2.1
        have b1 := lm_le (n := n') (p := tp n' B) (tl_le hB.1 hn2) i j
        refine hZ [] 60 _ _ _ _ ?_
        refine HX1_atLeast hG' hT' rfl rfl hi hj hij ?_
        refine pk_lt (lm n' (tp n' B) (tl n' B) i j - los n' B K') m (fun c => ?_) (fun c => ?_)
        · exact hp _ _ _ (Or.inr (Or.inr ⟨i, j, m, B, ⟨hi, hj, hij, rfl, rfl⟩, hm, rfl, hab, rfl, by rw [decide_eq_false (show ¬ m ≤ lob n' B K' i j by unfold lob; omega)]; rfl⟩)) hc0
        · exact hp _ _ _ (Or.inr (Or.inr ⟨i, j, m, B, ⟨hi, hj, hij, rfl, rfl⟩, hm, rfl, hab, rfl, by rw [decide_eq_true (show m ≤ lob n' B K' i j by unfold lob; omega)]; rfl⟩)) hc0
      rcases cT_0 hT with ⟨e1, e2⟩ | ⟨e1, B, e2⟩
      · refine And.intro (fun _ => ?_) (fun c => absurd e1 c)
        refine HX4_buildAnew hσ0 (fun σ' h' => ?_)
        exact (fin _ _ (Or.inr ⟨fun q => (by obtain ⟨B, q, -⟩ := q; rw [e2] at q; cases q), rfl⟩) h')
      · refine And.intro (fun c => absurd c (by rw [e1]; decide)) (fun _ => ?_)
        rw [e2] at hT
        have hB := (cT_some hT).2.1
        have b1 := lm_le (n := n) (p := tp n B) (tl_le hB.1 hn2) i j
        have b2 := lw_le (p := tp n B) hG.2.2.2.2.1 hn2 i j
        refine HX1_atLeast hG hT rfl rfl hi hj hij ?_
        refine pk_le m (lm n (tp n B) (tl n B) i j - los n B K) (fun c => ?_) (fun c => ?_)
        · exact fin _ _ (Or.inl ⟨⟨B, e2, fun q => (by dsimp only [lob] at q; omega)⟩, rfl⟩) hσ0
        · refine HX1_atMost hG hT rfl rfl hi hj hij ?_
          refine pk_lt (lw n (tp n B) K i j) m (fun c2 => ?_) (fun c2 => ?_)
          · exact fin _ _ (Or.inl ⟨⟨B, e2, fun q => (by dsimp only [upb] at q; omega)⟩, rfl⟩) hσ0
          · refine HX4_buildAnew hσ0 (fun σ' h' => ?_)
            exact fin _ _ (Or.inr ⟨fun q => (by
              obtain ⟨B', q, q2⟩ := q
              rw [e2] at q
              cases q
              exact q2 (by dsimp only [lob, upb]; omega)), rfl⟩) h'
    · exact hp _ _ _ (Or.inr (Or.inl ⟨e, hl, rfl, rfl⟩)) hσ0
theorem zX4_isAtLeast (l : Launch) : zMet l yX4_isAtLeast cX4_isAtLeast 5 (some .int) rX4_isAtLeast kX4_isAtLeast := zMet_of (by decide) ⟨rfl, rfl⟩ (oX4_isAtLeast l) (fun as0 st0 P h => by
  obtain ⟨σ, a, s, t, l, h0, rfl, rfl, hz⟩ := h
  exact ⟨Nat.le_of_ble_eq_true rfl, fun Z hZ => wX4_isAtLeast eX4_pairError eX4_isLimit eX1_atLeast eX1_atMost eX4_buildAnew h0 hz hZ⟩)

/-- lightCut(k) -/
def kX4_lightCut : zK := fun as0 st0 P => ∃ σ : zS, ∃ a : AS, ∃ k : Int32, (cSt a σ) ∧ as0 = [.inr (.inl 0), .inl k] ∧ st0 = σ ∧ (∀ r a' σ', rLight k a r a' → cSt a' σ' → P (some (.inl r)) σ')
def iX4_lightCut (C0 : zK) : Prop := ∀ {σ : zS} {a : AS} {k : Int32} {P : zP}, (cSt a σ) → (∀ r a' σ', rLight k a r a' → cSt a' σ' → P (some (.inl r)) σ') → C0 [.inr (.inl 0), .inl k] (σ) P
theorem eX4_lightCut : iX4_lightCut kX4_lightCut := by
  intro σ a k P h0 hz
  exact ⟨σ, a, k, h0, rfl, rfl, hz⟩
theorem oX4_lightCut (l : Launch) : zOK l RX4 cX4_lightCut rX4_lightCut (some .int) (tX4_lightCut, fX4, gX4, [(83, 0, 4, kX4_freshen), (128, 1, 1, kX1_nodeAtPlace)], [], 1) := ⟨tX4_lightCut_ok, fX4_ok, gX4_ok, List.forall_mem_cons.mpr ⟨⟨yX4_freshen, cX4_freshen, 1, none, rX4_freshen, zX4_freshen l, by decide +kernel, ykX4_freshen, lkX4_83⟩, List.forall_mem_cons.mpr ⟨⟨yX1_nodeAtPlace, cX1_nodeAtPlace, 3, (some .int), rX1_nodeAtPlace, zX1_nodeAtPlace l, by decide +kernel, ykX1_nodeAtPlace, lkX4_128⟩, fun _ h => absurd h List.not_mem_nil⟩⟩, by decide +kernel, rfl⟩
set_option maxRecDepth 100000 in
set_option maxHeartbeats 4000000 in
theorem wX4_lightCut {CX4_freshen : zK} (HX4_freshen : iX4_freshen CX4_freshen) {CX1_nodeAtPlace : zK} (HX1_nodeAtPlace : iX1_nodeAtPlace CX1_nodeAtPlace) {σ : zS} {a : AS} {k : Int32} {P : zP} (hσ : cSt a σ) (hp : ∀ r a' σ', rLight k a r a' → cSt a' σ' → P (some (.inl r)) σ') {Z : zH} (hZ : zcl (tX4_lightCut, fX4, gX4, [(83, 0, 4, CX4_freshen), (128, 1, 1, CX1_nodeAtPlace)], [], 1) P Z) : Z (σ) 0 [some (.inr (.inl 0)), some (.inl k)] [] := by
  have hσ0 := hσ
  obtain ⟨n, K, L, F, ob⟩ := a
  obtain ⟨xfl, xn, xcap, xfs, xss, xbs, xnx, xsz, xsd, xct, xpa, xla, xsi, xre, xcf, xfn, xrc, rfl, hG, hR, hF, hT⟩ := hσ
  dsimp only at hG hR hF hT
  have hn2 := hG.2.2.1
  refine hZ [] 60 _ _ _ _ ?_
  refine And.intro (fun c => ?_) (fun c => ?_)
  · have c1 : ¬ k < 0 := Int32.not_lt.mpr c
    refine HX4_freshen hσ0 (fun a' σ' hrF hc => ?_)
    have hc0 := hc
    obtain ⟨q1, q2, q3⟩ := rF_some hrF
    obtain ⟨n', K', L', F', ob'⟩ := a'
    obtain ⟨zfl, zn, zcap, zfs, zss, zbs, znx, zsz, zsd, zct, zpa, zla, zsi, zre, zcf, zfn, zrc, rfl, hG', hR', hF', hT'⟩ := hc
    dsimp only at hG' hR' hF' hT'
    dsimp only at q1 q2 q3
    subst q1; subst q2; subst q3
    have hn1 := hG'.2.1
    refine HX1_nodeAtPlace hG'.1 hn1 hn2 hT' ?_
    exact hp _ _ _ (Or.inr ⟨c1, hrF, rfl⟩) hc0
  · exact hp _ _ _ (Or.inl ⟨Int32.not_le.mp c, rfl, rfl⟩) hσ0
theorem zX4_lightCut (l : Launch) : zMet l yX4_lightCut cX4_lightCut 2 (some .int) rX4_lightCut kX4_lightCut := zMet_of (by decide) ⟨rfl, rfl⟩ (oX4_lightCut l) (fun as0 st0 P h => by
  obtain ⟨σ, a, k, h0, rfl, rfl, hz⟩ := h
  exact ⟨Nat.le_of_ble_eq_true rfl, fun Z hZ => wX4_lightCut eX4_freshen eX1_nodeAtPlace h0 hz hZ⟩)

/-- classCount(l) -/
def kX4_classCount : zK := fun as0 st0 P => ∃ σ : zS, ∃ a : AS, ∃ l : Int32, (cSt a σ) ∧ as0 = [.inr (.inl 0), .inl l] ∧ st0 = σ ∧ (∀ r a' σ', rCC l a r a' → cSt a' σ' → P (some (.inl r)) σ')
def iX4_classCount (C0 : zK) : Prop := ∀ {σ : zS} {a : AS} {l : Int32} {P : zP}, (cSt a σ) → (∀ r a' σ', rCC l a r a' → cSt a' σ' → P (some (.inl r)) σ') → C0 [.inr (.inl 0), .inl l] (σ) P
theorem eX4_classCount : iX4_classCount kX4_classCount := by
  intro σ a l P h0 hz
  exact ⟨σ, a, l, h0, rfl, rfl, hz⟩
theorem oX4_classCount (l : Launch) : zOK l RX4 cX4_classCount rX4_classCount (some .int) (tX4_classCount, fX4, gX4, [(122, 1, 100, kX4_isLimit), (83, 0, 4, kX4_freshen), (131, 1, 1, kX1_labelsBelow)], [], 1) := ⟨tX4_classCount_ok, fX4_ok, gX4_ok, List.forall_mem_cons.mpr ⟨⟨yX4_isLimit, cX4_isLimit, 1, (some .boolean), rX4_isLimit, zX4_isLimit l, by decide +kernel, ykX4_isLimit, lkX4_122⟩, List.forall_mem_cons.mpr ⟨⟨yX4_freshen, cX4_freshen, 1, none, rX4_freshen, zX4_freshen l, by decide +kernel, ykX4_freshen, lkX4_83⟩, List.forall_mem_cons.mpr ⟨⟨yX1_labelsBelow, cX1_labelsBelow, 4, (some .int), rX1_labelsBelow, zX1_labelsBelow l, by decide +kernel, ykX1_labelsBelow, lkX4_131⟩, fun _ h => absurd h List.not_mem_nil⟩⟩⟩, by decide +kernel, rfl⟩
set_option maxRecDepth 100000 in
set_option maxHeartbeats 4000000 in
theorem wX4_classCount {CX4_isLimit : zK} (HX4_isLimit : iX4_isLimit CX4_isLimit) {CX4_freshen : zK} (HX4_freshen : iX4_freshen CX4_freshen) {CX1_labelsBelow : zK} (HX1_labelsBelow : iX1_labelsBelow CX1_labelsBelow) {σ : zS} {a : AS} {l : Int32} {P : zP} (hσ : cSt a σ) (hp : ∀ r a' σ', rCC l a r a' → cSt a' σ' → P (some (.inl r)) σ') {Z : zH} (hZ : zcl (tX4_classCount, fX4, gX4, [(122, 1, 100, CX4_isLimit), (83, 0, 4, CX4_freshen), (131, 1, 1, CX1_labelsBelow)], [], 1) P Z) : Z (σ) 0 [some (.inr (.inl 0)), some (.inl l)] [] := by
  have hσ0 := hσ
  obtain ⟨n, K, L, F, ob⟩ := a
  obtain ⟨xfl, xn, xcap, xfs, xss, xbs, xnx, xsz, xsd, xct, xpa, xla, xsi, xre, xcf, xfn, xrc, rfl, hG, hR, hF, hT⟩ := hσ
  dsimp only at hG hR hF hT
  have hn2 := hG.2.2.1
  refine hZ [] 60 _ _ _ _ ?_
  refine HX4_isLimit ?_
  refine bn (fun hl => ?_) (fun hl => ?_)
  · obtain ⟨m, hm, rfl⟩ := okLim_of hl
    refine HX4_freshen hσ0 (fun a' σ' hrF hc => ?_)
    have hc0 := hc
    obtain ⟨q1, q2, q3⟩ := rF_some hrF
    obtain ⟨n', K', L', F', ob'⟩ := a'
    obtain ⟨zfl, zn, zcap, zfs, zss, zbs, znx, zsz, zsd, zct, zpa, zla, zsi, zre, zcf, zfn, zrc, rfl, hG', hR', hF', hT'⟩ := hc
    dsimp only at hG' hR' hF' hT'
    dsimp only at q1 q2 q3
    subst q1; subst q2; subst q3
    have hn1 := hG'.2.1
    refine HX1_labelsBelow hG'.1 hn1 hn2 hT' rfl (by omega) ?_
    exact hp _ _ _ (Or.inr ⟨m, hm, rfl, hrF, by rw [← nI_add]; rfl⟩) hc0
  · exact hp _ _ _ (Or.inl ⟨hl, rfl, rfl⟩) hσ0
theorem zX4_classCount (l : Launch) : zMet l yX4_classCount cX4_classCount 2 (some .int) rX4_classCount kX4_classCount := zMet_of (by decide) ⟨rfl, rfl⟩ (oX4_classCount l) (fun as0 st0 P h => by
  obtain ⟨σ, a, l, h0, rfl, rfl, hz⟩ := h
  exact ⟨Nat.le_of_ble_eq_true rfl, fun Z hZ => wX4_classCount eX4_isLimit eX4_freshen eX1_labelsBelow h0 hz hZ⟩)

/-- classOf(k, l) -/
def kX4_classOf : zK := fun as0 st0 P => ∃ σ : zS, ∃ a : AS, ∃ k : Int32, ∃ l : Int32, (cSt a σ) ∧ as0 = [.inr (.inl 0), .inl k, .inl l] ∧ st0 = σ ∧ (∀ r a' σ', rCO k l a r a' → cSt a' σ' → P (some (.inl r)) σ')
def iX4_classOf (C0 : zK) : Prop := ∀ {σ : zS} {a : AS} {k : Int32} {l : Int32} {P : zP}, (cSt a σ) → (∀ r a' σ', rCO k l a r a' → cSt a' σ' → P (some (.inl r)) σ') → C0 [.inr (.inl 0), .inl k, .inl l] (σ) P
theorem eX4_classOf : iX4_classOf kX4_classOf := by
  intro σ a k l P h0 hz
  exact ⟨σ, a, k, l, h0, rfl, rfl, hz⟩
theorem oX4_classOf (l : Launch) : zOK l RX4 cX4_classOf rX4_classOf (some .int) (tX4_classOf, fX4, gX4, [(134, 1, 2, kX2_hasNode), (122, 1, 100, kX4_isLimit), (83, 0, 4, kX4_freshen), (137, 2, 1, kX1_nodesTiedTo)], [], 1) := ⟨tX4_classOf_ok, fX4_ok, gX4_ok, List.forall_mem_cons.mpr ⟨⟨yX2_hasNode, cX2_hasNode, 2, (some .boolean), rX2_hasNode, zX2_hasNode l, by decide +kernel, ykX2_hasNode, lkX4_134⟩, List.forall_mem_cons.mpr ⟨⟨yX4_isLimit, cX4_isLimit, 1, (some .boolean), rX4_isLimit, zX4_isLimit l, by decide +kernel, ykX4_isLimit, lkX4_122⟩, List.forall_mem_cons.mpr ⟨⟨yX4_freshen, cX4_freshen, 1, none, rX4_freshen, zX4_freshen l, by decide +kernel, ykX4_freshen, lkX4_83⟩, List.forall_mem_cons.mpr ⟨⟨yX1_nodesTiedTo, cX1_nodesTiedTo, 5, (some .int), rX1_nodesTiedTo, zX1_nodesTiedTo l, by decide +kernel, ykX1_nodesTiedTo, lkX4_137⟩, fun _ h => absurd h List.not_mem_nil⟩⟩⟩⟩, by decide +kernel, rfl⟩
set_option maxRecDepth 100000 in
set_option maxHeartbeats 4000000 in
theorem wX4_classOf {CX2_hasNode : zK} (HX2_hasNode : iX2_hasNode CX2_hasNode) {CX4_isLimit : zK} (HX4_isLimit : iX4_isLimit CX4_isLimit) {CX4_freshen : zK} (HX4_freshen : iX4_freshen CX4_freshen) {CX1_nodesTiedTo : zK} (HX1_nodesTiedTo : iX1_nodesTiedTo CX1_nodesTiedTo) {σ : zS} {a : AS} {k : Int32} {l : Int32} {P : zP} (hσ : cSt a σ) (hp : ∀ r a' σ', rCO k l a r a' → cSt a' σ' → P (some (.inl r)) σ') {Z : zH} (hZ : zcl (tX4_classOf, fX4, gX4, [(134, 1, 2, CX2_hasNode), (122, 1, 100, CX4_isLimit), (83, 0, 4, CX4_freshen), (137, 2, 1, CX1_nodesTiedTo)], [], 1) P Z) : Z (σ) 0 [some (.inr (.inl 0)), some (.inl k), some (.inl l)] [] := by
  have hσ0 := hσ
  obtain ⟨n, K, L, F, ob⟩ := a
  obtain ⟨xfl, xn, xcap, xfs, xss, xbs, xnx, xsz, xsd, xct, xpa, xla, xsi, xre, xcf, xfn, xrc, rfl, hG, hR, hF, hT⟩ := hσ
  dsimp only at hG hR hF hT
  have hn2 := hG.2.2.1
  refine hZ [] 60 _ _ _ _ ?_
  refine HX2_hasNode hG.1 ?_
  refine bn (fun hk => ?_) (fun hk => ?_)
  · refine HX4_isLimit ?_
    refine bn (fun hl => ?_) (fun hl => ?_)
    · obtain ⟨i, hi, rfl⟩ := okN_of (by omega) hk
      obtain ⟨m, hm, rfl⟩ := okLim_of hl
      refine HX4_freshen hσ0 (fun a' σ' hrF hc => ?_)
      have hc0 := hc
      obtain ⟨q1, q2, q3⟩ := rF_some hrF
      obtain ⟨n', K', L', F', ob'⟩ := a'
      obtain ⟨zfl, zn, zcap, zfs, zss, zbs, znx, zsz, zsd, zct, zpa, zla, zsi, zre, zcf, zfn, zrc, rfl, hG', hR', hF', hT'⟩ := hc
      dsimp only at hG' hR' hF' hT'
      dsimp only at q1 q2 q3
      subst q1; subst q2; subst q3
      have hn1 := hG'.2.1
      refine HX1_nodesTiedTo hG'.1 hn1 hn2 hT' rfl rfl hi (by omega) ?_
      exact hp _ _ _ (Or.inr (Or.inr ⟨i, m, hi, rfl, hm, rfl, hrF, rfl⟩)) hc0
    · exact hp _ _ _ (Or.inr (Or.inl ⟨hk, hl, rfl, rfl⟩)) hσ0
  · exact hp _ _ _ (Or.inl ⟨hk, rfl, rfl⟩) hσ0
theorem zX4_classOf (l : Launch) : zMet l yX4_classOf cX4_classOf 3 (some .int) rX4_classOf kX4_classOf := zMet_of (by decide) ⟨rfl, rfl⟩ (oX4_classOf l) (fun as0 st0 P h => by
  obtain ⟨σ, a, k, l, h0, rfl, rfl, hz⟩ := h
  exact ⟨Nat.le_of_ble_eq_true rfl, fun Z hZ => wX4_classOf eX2_hasNode eX4_isLimit eX4_freshen eX1_nodesTiedTo h0 hz hZ⟩)

/-- partner(k) -/
def kX4_partner : zK := fun as0 st0 P => ∃ σ : zS, ∃ a : AS, ∃ k : Int32, (cSt a σ) ∧ as0 = [.inr (.inl 0), .inl k] ∧ st0 = σ ∧ (∀ r a' σ', rPart k a r a' → cSt a' σ' → P (some (.inl r)) σ')
def iX4_partner (C0 : zK) : Prop := ∀ {σ : zS} {a : AS} {k : Int32} {P : zP}, (cSt a σ) → (∀ r a' σ', rPart k a r a' → cSt a' σ' → P (some (.inl r)) σ') → C0 [.inr (.inl 0), .inl k] (σ) P
theorem eX4_partner : iX4_partner kX4_partner := by
  intro σ a k P h0 hz
  exact ⟨σ, a, k, h0, rfl, rfl, hz⟩
theorem oX4_partner (l : Launch) : zOK l RX4 cX4_partner rX4_partner (some .int) (tX4_partner, fX4, gX4, [(134, 1, 2, kX2_hasNode), (83, 0, 4, kX4_freshen), (140, 1, 1, kX1_nodeTiedMostTo)], [], 1) := ⟨tX4_partner_ok, fX4_ok, gX4_ok, List.forall_mem_cons.mpr ⟨⟨yX2_hasNode, cX2_hasNode, 2, (some .boolean), rX2_hasNode, zX2_hasNode l, by decide +kernel, ykX2_hasNode, lkX4_134⟩, List.forall_mem_cons.mpr ⟨⟨yX4_freshen, cX4_freshen, 1, none, rX4_freshen, zX4_freshen l, by decide +kernel, ykX4_freshen, lkX4_83⟩, List.forall_mem_cons.mpr ⟨⟨yX1_nodeTiedMostTo, cX1_nodeTiedMostTo, 5, (some .int), rX1_nodeTiedMostTo, zX1_nodeTiedMostTo l, by decide +kernel, ykX1_nodeTiedMostTo, lkX4_140⟩, fun _ h => absurd h List.not_mem_nil⟩⟩⟩, by decide +kernel, rfl⟩
set_option maxRecDepth 100000 in
set_option maxHeartbeats 4000000 in
theorem wX4_partner {CX2_hasNode : zK} (HX2_hasNode : iX2_hasNode CX2_hasNode) {CX4_freshen : zK} (HX4_freshen : iX4_freshen CX4_freshen) {CX1_nodeTiedMostTo : zK} (HX1_nodeTiedMostTo : iX1_nodeTiedMostTo CX1_nodeTiedMostTo) {σ : zS} {a : AS} {k : Int32} {P : zP} (hσ : cSt a σ) (hp : ∀ r a' σ', rPart k a r a' → cSt a' σ' → P (some (.inl r)) σ') {Z : zH} (hZ : zcl (tX4_partner, fX4, gX4, [(134, 1, 2, CX2_hasNode), (83, 0, 4, CX4_freshen), (140, 1, 1, CX1_nodeTiedMostTo)], [], 1) P Z) : Z (σ) 0 [some (.inr (.inl 0)), some (.inl k)] [] := by
  have hσ0 := hσ
  obtain ⟨n, K, L, F, ob⟩ := a
  obtain ⟨xfl, xn, xcap, xfs, xss, xbs, xnx, xsz, xsd, xct, xpa, xla, xsi, xre, xcf, xfn, xrc, rfl, hG, hR, hF, hT⟩ := hσ
  dsimp only at hG hR hF hT
  have hn2 := hG.2.2.1
  refine hZ [] 60 _ _ _ _ ?_
  refine HX2_hasNode hG.1 ?_
  refine bn (fun hk => ?_) (fun hk => ?_)
  · obtain ⟨i, hi, rfl⟩ := okN_of (by omega) hk
    refine HX4_freshen hσ0 (fun a' σ' hrF hc => ?_)
    have hc0 := hc
    obtain ⟨q1, q2, q3⟩ := rF_some hrF
    obtain ⟨n', K', L', F', ob'⟩ := a'
    obtain ⟨zfl, zn, zcap, zfs, zss, zbs, znx, zsz, zsd, zct, zpa, zla, zsi, zre, zcf, zfn, zrc, rfl, hG', hR', hF', hT'⟩ := hc
    dsimp only at hG' hR' hF' hT'
    dsimp only at q1 q2 q3
    subst q1; subst q2; subst q3
    have hn1 := hG'.2.1
    refine HX1_nodeTiedMostTo hG'.1 hn1 hn2 hT' rfl hi ?_
    exact hp _ _ _ (Or.inr ⟨i, hi, rfl, hrF, rfl⟩) hc0
  · exact hp _ _ _ (Or.inl ⟨hk, rfl, rfl⟩) hσ0
theorem zX4_partner (l : Launch) : zMet l yX4_partner cX4_partner 2 (some .int) rX4_partner kX4_partner := zMet_of (by decide) ⟨rfl, rfl⟩ (oX4_partner l) (fun as0 st0 P h => by
  obtain ⟨σ, a, k, h0, rfl, rfl, hz⟩ := h
  exact ⟨Nat.le_of_ble_eq_true rfl, fun Z hZ => wX4_partner eX2_hasNode eX4_freshen eX1_nodeTiedMostTo h0 hz hZ⟩)

/-- leastAcross(x) -/
def kX4_leastAcross : zK := fun as0 st0 P => ∃ σ : zS, ∃ a : AS, ∃ x : Int32, (cSt a σ) ∧ as0 = [.inr (.inl 0), .inl x] ∧ st0 = σ ∧ (∀ r a' σ', rLA x a r a' → cSt a' σ' → P (some (.inl r)) σ')
def iX4_leastAcross (C0 : zK) : Prop := ∀ {σ : zS} {a : AS} {x : Int32} {P : zP}, (cSt a σ) → (∀ r a' σ', rLA x a r a' → cSt a' σ' → P (some (.inl r)) σ') → C0 [.inr (.inl 0), .inl x] (σ) P
theorem eX4_leastAcross : iX4_leastAcross kX4_leastAcross := by
  intro σ a x P h0 hz
  exact ⟨σ, a, x, h0, rfl, rfl, hz⟩
theorem oX4_leastAcross (l : Launch) : zOK l RX4 cX4_leastAcross rX4_leastAcross (some .int) (tX4_leastAcross, fX4, gX4, [(75, 1, 2, kX2_isCut), (83, 0, 4, kX4_freshen), (143, 1, 1, kX1_leastLabelAcross)], [], 1) := ⟨tX4_leastAcross_ok, fX4_ok, gX4_ok, List.forall_mem_cons.mpr ⟨⟨yX2_isCut, cX2_isCut, 2, (some .boolean), rX2_isCut, zX2_isCut l, by decide +kernel, ykX2_isCut, lkX4_75⟩, List.forall_mem_cons.mpr ⟨⟨yX4_freshen, cX4_freshen, 1, none, rX4_freshen, zX4_freshen l, by decide +kernel, ykX4_freshen, lkX4_83⟩, List.forall_mem_cons.mpr ⟨⟨yX1_leastLabelAcross, cX1_leastLabelAcross, 5, (some .int), rX1_leastLabelAcross, zX1_leastLabelAcross l, by decide +kernel, ykX1_leastLabelAcross, lkX4_143⟩, fun _ h => absurd h List.not_mem_nil⟩⟩⟩, by decide +kernel, rfl⟩
set_option maxRecDepth 100000 in
set_option maxHeartbeats 4000000 in
theorem wX4_leastAcross {CX2_isCut : zK} (HX2_isCut : iX2_isCut CX2_isCut) {CX4_freshen : zK} (HX4_freshen : iX4_freshen CX4_freshen) {CX1_leastLabelAcross : zK} (HX1_leastLabelAcross : iX1_leastLabelAcross CX1_leastLabelAcross) {σ : zS} {a : AS} {x : Int32} {P : zP} (hσ : cSt a σ) (hp : ∀ r a' σ', rLA x a r a' → cSt a' σ' → P (some (.inl r)) σ') {Z : zH} (hZ : zcl (tX4_leastAcross, fX4, gX4, [(75, 1, 2, CX2_isCut), (83, 0, 4, CX4_freshen), (143, 1, 1, CX1_leastLabelAcross)], [], 1) P Z) : Z (σ) 0 [some (.inr (.inl 0)), some (.inl x)] [] := by
  have hσ0 := hσ
  obtain ⟨n, K, L, F, ob⟩ := a
  obtain ⟨xfl, xn, xcap, xfs, xss, xbs, xnx, xsz, xsd, xct, xpa, xla, xsi, xre, xcf, xfn, xrc, rfl, hG, hR, hF, hT⟩ := hσ
  dsimp only at hG hR hF hT
  have hn2 := hG.2.2.1
  refine hZ [] 60 _ _ _ _ ?_
  refine HX2_isCut hG.1 hn2 ?_
  refine bn (fun hk => ?_) (fun hk => ?_)
  · obtain ⟨S, h0, h1, rfl⟩ := okC_of hn2 hk
    refine HX4_freshen hσ0 (fun a' σ' hrF hc => ?_)
    have hc0 := hc
    obtain ⟨q1, q2, q3⟩ := rF_some hrF
    obtain ⟨n', K', L', F', ob'⟩ := a'
    obtain ⟨zfl, zn, zcap, zfs, zss, zbs, znx, zsz, zsd, zct, zpa, zla, zsi, zre, zcf, zfn, zrc, rfl, hG', hR', hF', hT'⟩ := hc
    dsimp only at hG' hR' hF' hT'
    dsimp only at q1 q2 q3
    subst q1; subst q2; subst q3
    have hn1 := hG'.2.1
    refine HX1_leastLabelAcross hG'.1 hn1 hn2 hT' rfl h0 h1 (fun w hw => ?_)
    exact hp _ _ _ (Or.inr ⟨S, w, h0, h1, rfl, hrF, hw, rfl⟩) hc0
  · exact hp _ _ _ (Or.inl ⟨hk, rfl, rfl⟩) hσ0
theorem zX4_leastAcross (l : Launch) : zMet l yX4_leastAcross cX4_leastAcross 2 (some .int) rX4_leastAcross kX4_leastAcross := zMet_of (by decide) ⟨rfl, rfl⟩ (oX4_leastAcross l) (fun as0 st0 P h => by
  obtain ⟨σ, a, x, h0, rfl, rfl, hz⟩ := h
  exact ⟨Nat.le_of_ble_eq_true rfl, fun Z hZ => wX4_leastAcross eX2_isCut eX4_freshen eX1_leastLabelAcross h0 hz hZ⟩)

