/-! CutTree: growAnew, fitsGraph, lostCapacity. -/
/-- the component's stored tree: none, or built with the capacities B -/
def cT (n : Nat) (xsd : Int32) (xct : Nat → Nat → Int32) (xpa xla xsi : Nat → Int32) (ob : Option (Nat → Nat → Nat)) : Prop :=
  (ob = none ∧ (0 : Int32) = xsd) ∨ ∃ B, ob = some B ∧ (1 : Int32) = xsd ∧ gK n B ∧ (∀ i j, i < n → j < 12 → xct i j = nI (B i j)) ∧ cA n xpa (tp n B) ∧ cA n xla (tl n B) ∧ ∀ k, k < n → xsi k = nI (sd n (tp n B) k)
/-- growAnew() -/
def kX1_growAnew : zK := fun as0 st0 P => ∃ xfl : Int32, ∃ xn : Int32, ∃ xcap : Nat → Nat → Int32, ∃ xfs : Nat → Int32, ∃ xss : Nat → Int32, ∃ xbs : Nat → Int32, ∃ xnx : Int32, ∃ xsz : Int32, ∃ xsd : Int32, ∃ xct : Nat → Nat → Int32, ∃ xpa : Nat → Int32, ∃ xla : Nat → Int32, ∃ xsi : Nat → Int32, ∃ xre : Nat → Nat → Int32, ∃ xcf : Nat → Int32, ∃ xfn : Int32, ∃ xrc : Int32, ∃ n : Nat, ∃ K : Nat → Nat → Nat, (cG xn xcap n K) ∧ as0 = [.inr (.inl 7)] ∧ st0 = (CW xfl xn xcap xfs xss xbs xnx xsz xsd xct xpa xla xsi xre xcf xfn xrc) ∧ (∀ sd' ct' pa' la' si' re' cf' fn' rc', cT n sd' ct' pa' la' si' (some K) → P none (CW xfl xn xcap xfs xss xbs xnx xsz (sd') (ct') (pa') (la') (si') (re') (cf') (fn') (rc')))
def iX1_growAnew (C0 : zK) : Prop := ∀ {xfl : Int32} {xn : Int32} {xcap : Nat → Nat → Int32} {xfs : Nat → Int32} {xss : Nat → Int32} {xbs : Nat → Int32} {xnx : Int32} {xsz : Int32} {xsd : Int32} {xct : Nat → Nat → Int32} {xpa : Nat → Int32} {xla : Nat → Int32} {xsi : Nat → Int32} {xre : Nat → Nat → Int32} {xcf : Nat → Int32} {xfn : Int32} {xrc : Int32} {n : Nat} {K : Nat → Nat → Nat} {P : zP}, (cG xn xcap n K) → (∀ sd' ct' pa' la' si' re' cf' fn' rc', cT n sd' ct' pa' la' si' (some K) → P none (CW xfl xn xcap xfs xss xbs xnx xsz (sd') (ct') (pa') (la') (si') (re') (cf') (fn') (rc'))) → C0 [.inr (.inl 7)] ((CW xfl xn xcap xfs xss xbs xnx xsz xsd xct xpa xla xsi xre xcf xfn xrc)) P
theorem eX1_growAnew : iX1_growAnew kX1_growAnew := by
  intro xfl xn xcap xfs xss xbs xnx xsz xsd xct xpa xla xsi xre xcf xfn xrc n K P h0 hz
  exact ⟨xfl, xn, xcap, xfs, xss, xbs, xnx, xsz, xsd, xct, xpa, xla, xsi, xre, xcf, xfn, xrc, n, K, h0, rfl, rfl, hz⟩
theorem oX1_growAnew (l : Launch) : zOK l RX1 cX1_growAnew rX1_growAnew none (tX1_growAnew, fX1, gX1, [(41, 2, 100, kJ7_fill_53178), (53, 3, 3, kX3_nearCut), (57, 1, 2, kX2_weightOf), (61, 3, 1, kX1_splitOff), (65, 0, 1, kX1_collectSides)], [(71, 0)], 0) := ⟨tX1_growAnew_ok, fX1_ok, gX1_ok, List.forall_mem_cons.mpr ⟨⟨yJ7_fill_53178, cJ7_fill_53178, 4, none, rJ7_fill_53178, zJ7_fill_53178 l, by decide +kernel, ykJ7_fill_53178, lkX1_41⟩, List.forall_mem_cons.mpr ⟨⟨yX3_nearCut, cX3_nearCut, 5, (some .int), rX3_nearCut, zX3_nearCut l, by decide +kernel, ykX3_nearCut, lkX1_53⟩, List.forall_mem_cons.mpr ⟨⟨yX2_weightOf, cX2_weightOf, 5, (some .int), rX2_weightOf, zX2_weightOf l, by decide +kernel, ykX2_weightOf, lkX1_57⟩, List.forall_mem_cons.mpr ⟨⟨yX1_splitOff, cX1_splitOff, 6, none, rX1_splitOff, zX1_splitOff l, by decide +kernel, ykX1_splitOff, lkX1_61⟩, List.forall_mem_cons.mpr ⟨⟨yX1_collectSides, cX1_collectSides, 4, none, rX1_collectSides, zX1_collectSides l, by decide +kernel, ykX1_collectSides, lkX1_65⟩, fun _ h => absurd h List.not_mem_nil⟩⟩⟩⟩⟩, by decide +kernel, rfl⟩
set_option maxRecDepth 100000 in
set_option maxHeartbeats 4000000 in
theorem wX1_growAnew {CJ7_fill_53178 : zK} (HJ7_fill_53178 : iJ7_fill_53178 CJ7_fill_53178) {CX3_nearCut : zK} (HX3_nearCut : iX3_nearCut CX3_nearCut) {CX2_weightOf : zK} (HX2_weightOf : iX2_weightOf CX2_weightOf) {CX1_splitOff : zK} (HX1_splitOff : iX1_splitOff CX1_splitOff) {CX1_collectSides : zK} (HX1_collectSides : iX1_collectSides CX1_collectSides) {xfl : Int32} {xn : Int32} {xcap : Nat → Nat → Int32} {xfs : Nat → Int32} {xss : Nat → Int32} {xbs : Nat → Int32} {xnx : Int32} {xsz : Int32} {xsd : Int32} {xct : Nat → Nat → Int32} {xpa : Nat → Int32} {xla : Nat → Int32} {xsi : Nat → Int32} {xre : Nat → Nat → Int32} {xcf : Nat → Int32} {xfn : Int32} {xrc : Int32} {n : Nat} {K : Nat → Nat → Nat} {P : zP} (hG : cG xn xcap n K) (hp : ∀ sd' ct' pa' la' si' re' cf' fn' rc', cT n sd' ct' pa' la' si' (some K) → P none (CW xfl xn xcap xfs xss xbs xnx xsz (sd') (ct') (pa') (la') (si') (re') (cf') (fn') (rc'))) {Z : zH} (hZ : zcl (tX1_growAnew, fX1, gX1, [(41, 2, 100, CJ7_fill_53178), (53, 3, 3, CX3_nearCut), (57, 1, 2, CX2_weightOf), (61, 3, 1, CX1_splitOff), (65, 0, 1, CX1_collectSides)], [(71, 0)], 0) P Z) : Z ((CW xfl xn xcap xfs xss xbs xnx xsz xsd xct xpa xla xsi xre xcf xfn xrc)) 0 [some (.inr (.inl 7)), none, none] [] := by
  have hG0 := hG
  obtain ⟨rfl, hn1, hn2, hcap, hK⟩ := hG
  have p12n := p12 hn2
  have copy : ∀ u, u ≤ n → ∀ (ct' : Nat → Nat → Int32) (pa' la' si' : Nat → Int32) (re' : Nat → Nat → Int32) (cf' : Nat → Int32) (fn' rc' : Int32) (o2 : Option zV), cA n pa' (tp n K) → cA n la' (tl n K) → (∀ k, k < n → si' k = nI (sd n (tp n K) k)) → (∀ i j, i < u → j < 12 → ct' i j = nI (K i j)) → Z (CW xfl (nI n) xcap xfs xss xbs xnx xsz xsd (ct') (pa') (la') (si') (re') (cf') (fn') (rc')) 90 [some (.inr (.inl 7)), some (.inl (nI u)), o2] [] := by
    refine dn (Q := fun u => ∀ (ct' : Nat → Nat → Int32) (pa' la' si' : Nat → Int32) (re' : Nat → Nat → Int32) (cf' : Nat → Int32) (fn' rc' : Int32) (o2 : Option zV), cA n pa' (tp n K) → cA n la' (tl n K) → (∀ k, k < n → si' k = nI (sd n (tp n K) k)) → (∀ i j, i < u → j < 12 → ct' i j = nI (K i j)) → Z (CW xfl (nI n) xcap xfs xss xbs xnx xsz xsd (ct') (pa') (la') (si') (re') (cf') (fn') (rc')) 90 [some (.inr (.inl 7)), some (.inl (nI u)), o2] []) ?_ ?_
    · intro ct' pa' la' si' re' cf' fn' rc' o2 h1 h2 h3 h4
      refine hZ [] 40 _ _ _ _ ?_
      refine pk_le n n (fun _ => ?_) (fun c => absurd c (by omega))
      refine And.intro (Or.inr rfl) ?_
      exact hp 1 ct' pa' la' si' re' cf' fn' rc' (Or.inr ⟨K, rfl, rfl, hK, h4, h1, h2, h3⟩)
    · intro u hu ih ct' pa' la' si' re' cf' fn' rc' o2 h1 h2 h3 h4
      refine hZ [90] 40 _ _ _ _ ?_
      refine pk_le n u (fun c => absurd c (by omega)) (fun _ => ?_)
      refine And.intro (in12 (by omega)) ?_
      rw [cl12 (by omega)]
      refine And.intro (in12 (by omega)) ?_
      rw [cl12 (by omega)]
      refine And.intro ⟨by omega, by omega, rfl, rfl, rfl⟩ ?_
      have h9 := ih (zup ct' u (va_cpy (xcap u) (ct' u) 0 0 12)) pa' la' si' re' cf' fn' rc' o2 h1 h2 h3 (fun i j hi hj => by
        by_cases e : i = u
        · subst e
          rw [zup_at, pk_cpy_in (by omega) (by omega), Nat.zero_add, Nat.sub_zero]
          exact hcap i j (by omega) hj
        · rw [show zup ct' u (va_cpy (xcap u) (ct' u) 0 0 12) i = ct' i by simp [zup, e]]
          exact h4 i j (by omega) hj)
      rw [nI_succ] at h9
      exact h9
  have grow : ∀ m, m ≤ n - 1 → ∀ (pa' la' : Nat → Int32) (re' : Nat → Nat → Int32) (cf' : Nat → Int32) (fn' rc' : Int32) (o2 : Option zV), cA n pa' (trs n K m).1 → cA n la' (trs n K m).2 → Z (CW xfl (nI n) xcap xfs xss xbs xnx xsz xsd xct (pa') (la') xsi (re') (cf') (fn') (rc')) 34 [some (.inr (.inl 7)), some (.inl (nI (m + 1))), o2] [] := by
    refine dn (Q := fun m => ∀ (pa' la' : Nat → Int32) (re' : Nat → Nat → Int32) (cf' : Nat → Int32) (fn' rc' : Int32) (o2 : Option zV), cA n pa' (trs n K m).1 → cA n la' (trs n K m).2 → Z (CW xfl (nI n) xcap xfs xss xbs xnx xsz xsd xct (pa') (la') xsi (re') (cf') (fn') (rc')) 34 [some (.inr (.inl 7)), some (.inl (nI (m + 1))), o2] []) ?_ ?_
    · intro pa' la' re' cf' fn' rc' o2 h1 h2
      refine hZ [90] 40 _ _ _ _ ?_
      refine pk_le n (n - 1 + 1) (fun _ => ?_) (fun c => absurd c (by omega))
      refine HX1_collectSides rfl (by omega) hn2 h1 (tp_tI K (by omega)) (fun si' hsi => ?_)
      exact copy 0 (by omega) xct pa' la' si' re' cf' fn' rc' o2 h1 h2 hsi (fun i _ hi => absurd hi (by omega))
    · intro m hm ih pa' la' re' cf' fn' rc' o2 h1 h2
      have hT := tI_trs K (by omega : 0 < n) m (by omega)
      have hts := tI_ne hT (by omega : m + 1 < n) (by omega)
      have htn := hT.2.1 (m + 1) (by omega)
      refine hZ [34] 60 _ _ _ _ ?_
      refine pk_le n (m + 1) (fun c => absurd c (by omega)) (fun _ => ?_)
      refine And.intro (in12 (by omega)) ?_
      rw [cl12 (by omega), h1.2 (m + 1) (by omega) (by omega)]
      refine HX3_nearCut hG0 rfl rfl (by omega) htn (Ne.symm hts) (fun X re2 cf2 fn2 rc2 hX => ?_)
      have hX2 := hX.1
      refine HX2_weightOf hG0 rfl (by omega) ?_
      have eX := nr_eq (by omega) (Ne.symm hts) hX
      refine HX1_splitOff rfl hn2 rfl rfl rfl (by omega) (by omega) hX2 h1 h2 hT (fun pa2 la2 h3 h4 => ?_)
      have h9 := ih pa2 la2 re2 cf2 fn2 rc2 (some (.inl (nI X))) (by rw [trs, ← eX]; exact h3) (by rw [trs, ← eX]; exact h4)
      rw [nI_succ (m + 1)] at h9
      exact h9
  refine hZ [34] 60 _ _ _ _ ?_
  refine HJ7_fill_53178 (Or.inr (Or.inl ⟨rfl, rfl, rfl, rfl, rfl⟩)) ?_
  refine HJ7_fill_53178 (Or.inr (Or.inr (Or.inl ⟨rfl, rfl, rfl, rfl, rfl⟩))) ?_
  have e0 : (0 : Int32).toNatClampNeg = 0 := by decide
  refine And.intro (in12 (u := 0) (by omega)) ?_
  rw [e0]
  refine And.intro (in12 (u := 0) (by omega)) ?_
  rw [e0]
  refine grow 0 (by omega) _ _ xre xcf xfn xrc none ⟨pk_us, fun k h1 h2 => ?_⟩ ⟨pk_us, fun k h1 h2 => ?_⟩
  · rw [pk_un (by omega), fillv, if_pos (by omega)]; rfl
  · rw [pk_un (by omega), fillv, if_pos (by omega)]; rfl
theorem zX1_growAnew (l : Launch) : zMet l yX1_growAnew cX1_growAnew 3 none rX1_growAnew kX1_growAnew := zMet_of (by decide) ⟨rfl, rfl⟩ (oX1_growAnew l) (fun as0 st0 P h => by
  obtain ⟨xfl, xn, xcap, xfs, xss, xbs, xnx, xsz, xsd, xct, xpa, xla, xsi, xre, xcf, xfn, xrc, n, K, h0, rfl, rfl, hz⟩ := h
  exact ⟨Nat.le_of_ble_eq_true rfl, fun Z hZ => wX1_growAnew eJ7_fill_53178 eX3_nearCut eX2_weightOf eX1_splitOff eX1_collectSides h0 hz hZ⟩)

/-- capacities that agree above the diagonal agree -/
theorem gK_ext {n : Nat} {B K : Nat → Nat → Nat} (hB : gK n B) (hK : gK n K) (h : ∀ i j, i < j → j < n → B i j = K i j) : B = K := by
  funext i j
  by_cases h1 : i < n
  · by_cases h2 : j < n
    · rcases Nat.lt_trichotomy i j with q | q | q
      · exact h i j q h2
      · subst q; rw [hB.2.2.1, hK.2.2.1]
      · rw [hB.2.1, hK.2.1]; exact h j i q h1
    · rw [hB.2.1, hK.2.1, hB.2.2.2 j i (by omega), hK.2.2.2 j i (by omega)]
  · rw [hB.2.2.2 i j (by omega), hK.2.2.2 i j (by omega)]
/-- fitsGraph() -/
def kX1_fitsGraph : zK := fun as0 st0 P => ∃ xfl : Int32, ∃ xn : Int32, ∃ xcap : Nat → Nat → Int32, ∃ xfs : Nat → Int32, ∃ xss : Nat → Int32, ∃ xbs : Nat → Int32, ∃ xnx : Int32, ∃ xsz : Int32, ∃ xsd : Int32, ∃ xct : Nat → Nat → Int32, ∃ xpa : Nat → Int32, ∃ xla : Nat → Int32, ∃ xsi : Nat → Int32, ∃ xre : Nat → Nat → Int32, ∃ xcf : Nat → Int32, ∃ xfn : Int32, ∃ xrc : Int32, ∃ n : Nat, ∃ K : Nat → Nat → Nat, ∃ ob : Option (Nat → Nat → Nat), (cG xn xcap n K) ∧ (cT n xsd xct xpa xla xsi ob) ∧ as0 = [.inr (.inl 7)] ∧ st0 = (CW xfl xn xcap xfs xss xbs xnx xsz xsd xct xpa xla xsi xre xcf xfn xrc) ∧ (∀ b : Bool, (b = true ↔ ob = some K) → P (some (.inl (b2i b))) (CW xfl xn xcap xfs xss xbs xnx xsz xsd xct xpa xla xsi xre xcf xfn xrc))
def iX1_fitsGraph (C0 : zK) : Prop := ∀ {xfl : Int32} {xn : Int32} {xcap : Nat → Nat → Int32} {xfs : Nat → Int32} {xss : Nat → Int32} {xbs : Nat → Int32} {xnx : Int32} {xsz : Int32} {xsd : Int32} {xct : Nat → Nat → Int32} {xpa : Nat → Int32} {xla : Nat → Int32} {xsi : Nat → Int32} {xre : Nat → Nat → Int32} {xcf : Nat → Int32} {xfn : Int32} {xrc : Int32} {n : Nat} {K : Nat → Nat → Nat} {ob : Option (Nat → Nat → Nat)} {P : zP}, (cG xn xcap n K) → (cT n xsd xct xpa xla xsi ob) → (∀ b : Bool, (b = true ↔ ob = some K) → P (some (.inl (b2i b))) (CW xfl xn xcap xfs xss xbs xnx xsz xsd xct xpa xla xsi xre xcf xfn xrc)) → C0 [.inr (.inl 7)] ((CW xfl xn xcap xfs xss xbs xnx xsz xsd xct xpa xla xsi xre xcf xfn xrc)) P
theorem eX1_fitsGraph : iX1_fitsGraph kX1_fitsGraph := by
  intro xfl xn xcap xfs xss xbs xnx xsz xsd xct xpa xla xsi xre xcf xfn xrc n K ob P h0 h1 hz
  exact ⟨xfl, xn, xcap, xfs, xss, xbs, xnx, xsz, xsd, xct, xpa, xla, xsi, xre, xcf, xfn, xrc, n, K, ob, h0, h1, rfl, rfl, hz⟩
theorem oX1_fitsGraph (l : Launch) : zOK l RX1 cX1_fitsGraph rX1_fitsGraph (some .boolean) (tX1_fitsGraph, fX1, gX1, [], [], 2) := ⟨tX1_fitsGraph_ok, fX1_ok, gX1_ok, fun _ h => absurd h List.not_mem_nil, by decide +kernel, rfl⟩
set_option maxRecDepth 100000 in
set_option maxHeartbeats 4000000 in
theorem wX1_fitsGraph {xfl : Int32} {xn : Int32} {xcap : Nat → Nat → Int32} {xfs : Nat → Int32} {xss : Nat → Int32} {xbs : Nat → Int32} {xnx : Int32} {xsz : Int32} {xsd : Int32} {xct : Nat → Nat → Int32} {xpa : Nat → Int32} {xla : Nat → Int32} {xsi : Nat → Int32} {xre : Nat → Nat → Int32} {xcf : Nat → Int32} {xfn : Int32} {xrc : Int32} {n : Nat} {K : Nat → Nat → Nat} {ob : Option (Nat → Nat → Nat)} {P : zP} (hG : cG xn xcap n K) (hT : cT n xsd xct xpa xla xsi ob) (hp : ∀ b : Bool, (b = true ↔ ob = some K) → P (some (.inl (b2i b))) (CW xfl xn xcap xfs xss xbs xnx xsz xsd xct xpa xla xsi xre xcf xfn xrc)) {Z : zH} (hZ : zcl (tX1_fitsGraph, fX1, gX1, [], [], 2) P Z) : Z ((CW xfl xn xcap xfs xss xbs xnx xsz xsd xct xpa xla xsi xre xcf xfn xrc)) 0 [some (.inr (.inl 7)), none, none] [] := by
  obtain ⟨rfl, hn1, hn2, hcap, hK⟩ := hG
  rcases hT with ⟨rfl, rfl⟩ | ⟨B, rfl, rfl, hB, hct, -, -, -⟩
  · refine hZ [] 40 _ _ _ _ ?_
    refine And.intro (fun c => absurd rfl c) (fun _ => ?_)
    exact And.intro (Or.inl rfl) (hp false (by simp))
  · have no : ∀ i j, i < j → j < n → B i j ≠ K i j → P (some (.inl 0)) (CW xfl (nI n) xcap xfs xss xbs xnx xsz (1) xct xpa xla xsi xre xcf xfn xrc) := fun i j h1 h2 h3 => hp false ⟨fun q => absurd q (by decide), fun q => absurd (congrFun (congrFun (Option.some.inj q) i) j) h3⟩
    have outer : ∀ u, u ≤ n → ∀ o, (∀ i j, i < u → i < j → j < n → B i j = K i j) → Z (CW xfl (nI n) xcap xfs xss xbs xnx xsz (1) xct xpa xla xsi xre xcf xfn xrc) 11 [some (.inr (.inl 7)), some (.inl (nI u)), o] [] := by
      refine dn (Q := fun u => ∀ o, (∀ i j, i < u → i < j → j < n → B i j = K i j) → Z (CW xfl (nI n) xcap xfs xss xbs xnx xsz (1) xct xpa xla xsi xre xcf xfn xrc) 11 [some (.inr (.inl 7)), some (.inl (nI u)), o] []) ?_ ?_
      · intro o h
        refine hZ [] 40 _ _ _ _ ?_
        refine pk_le n n (fun _ => ?_) (fun c => absurd c (by omega))
        exact And.intro (Or.inr rfl) (hp true ⟨fun _ => by rw [gK_ext hB hK (fun i j h1 h2 => h i j (by omega) h1 h2)], fun _ => rfl⟩)
      · intro u hu ih o h
        have inner : ∀ v, v ≤ n → u < v → (∀ j, u < j → j < v → B u j = K u j) → Z (CW xfl (nI n) xcap xfs xss xbs xnx xsz (1) xct xpa xla xsi xre xcf xfn xrc) 26 [some (.inr (.inl 7)), some (.inl (nI u)), some (.inl (nI v))] [] := by
          refine dn (Q := fun v => u < v → (∀ j, u < j → j < v → B u j = K u j) → Z (CW xfl (nI n) xcap xfs xss xbs xnx xsz (1) xct xpa xla xsi xre xcf xfn xrc) 26 [some (.inr (.inl 7)), some (.inl (nI u)), some (.inl (nI v))] []) ?_ ?_
          · intro _ h2
            refine hZ [11] 40 _ _ _ _ ?_
            refine pk_le n n (fun _ => ?_) (fun c => absurd c (by omega))
            have h9 := ih (some (.inl (nI n))) (fun i j a b c => by
              by_cases e : i = u
              · subst e; exact h2 j b c
              · exact h i j (by omega) b c)
            rw [nI_succ] at h9
            exact h9
          · intro v hv ih2 huv h2
            refine hZ [26] 60 _ _ _ _ ?_
            refine pk_le n v (fun c => absurd c (by omega)) (fun _ => ?_)
            refine And.intro (in12 (by omega)) ?_
            rw [cl12 (by omega)]
            refine And.intro ⟨by omega, in12 (by omega)⟩ ?_
            rw [cl12 (by omega), hct u v hu (by omega)]
            refine And.intro (in12 (by omega)) ?_
            rw [cl12 (by omega)]
            refine And.intro ⟨by omega, in12 (by omega)⟩ ?_
            rw [cl12 (by omega), hcap u v (by omega) (by omega)]
            have b1 := hB.1 u v
            have b2 := hK.1 u v
            refine pk_eq (B u v) (K u v) (fun c => ?_) (fun c => ?_)
            · have h9 := ih2 (by omega) (fun j a b => by
                by_cases e : j = v
                · subst e; exact c
                · exact h2 j a (by omega))
              rw [nI_succ] at h9
              exact h9
            · exact And.intro (Or.inl rfl) (no u v huv hv c)
        refine hZ [26] 40 _ _ _ _ ?_
        refine pk_le n u (fun c => absurd c (by omega)) (fun _ => ?_)
        have h9 := inner (u + 1) (by omega) (by omega) (fun j a b => absurd a (by omega))
        rw [nI_succ] at h9
        exact h9
    refine hZ [11] 40 _ _ _ _ ?_
    refine And.intro (fun _ => ?_) (fun c => absurd c (by decide))
    exact outer 0 (by omega) none (fun i _ hi => absurd hi (by omega))
theorem zX1_fitsGraph (l : Launch) : zMet l yX1_fitsGraph cX1_fitsGraph 3 (some .boolean) rX1_fitsGraph kX1_fitsGraph := zMet_of (by decide) ⟨rfl, rfl⟩ (oX1_fitsGraph l) (fun as0 st0 P h => by
  obtain ⟨xfl, xn, xcap, xfs, xss, xbs, xnx, xsz, xsd, xct, xpa, xla, xsi, xre, xcf, xfn, xrc, n, K, ob, h0, h1, rfl, rfl, hz⟩ := h
  exact ⟨Nat.le_of_ble_eq_true rfl, fun Z hZ => wX1_fitsGraph h0 h1 hz hZ⟩)

/-- the loss -/
def lo (B K : Nat → Nat → Nat) (u v : Nat) : Nat := if u < v then B u v - K u v else 0
def los (n : Nat) (B K : Nat → Nat → Nat) : Nat := sm (fun u => sm (fun v => lo B K u v) n) n
theorem lo_le {B K : Nat → Nat → Nat} (hB : ∀ i j, B i j ≤ 999) (u v : Nat) : lo B K u v ≤ 999 := by
  unfold lo; have := hB u v; split <;> omega
theorem los_le {n : Nat} {B K : Nat → Nat → Nat} (hB : ∀ i j, B i j ≤ 999) (hn : n ≤ 12) : los n B K ≤ 143856 := by
  have h1 : ∀ u, u < n → sm (fun v => lo B K u v) n ≤ n * 999 := fun u _ => sm_bound (fun v _ => lo_le hB u v)
  have h2 := sm_bound h1
  have h3 : n * (n * 999) ≤ 12 * (12 * 999) := Nat.mul_le_mul hn (Nat.mul_le_mul_right _ hn)
  unfold los
  omega
theorem imax_sub {a b : Nat} (ha : a < 2 ^ 30) (hb : b < 2 ^ 30) : imax 0 (nI a - nI b) = nI (a - b) := by
  unfold imax
  by_cases h : b < a
  · rw [pk_sub (by omega), if_pos]
    rw [← nI_0]
    exact nI_lt (by omega) (by omega)
  · rw [if_neg]
    · rw [show a - b = 0 by omega]; rfl
    · intro q
      have e := pk_sub_toInt ha hb
      rw [Int32.lt_iff_toInt_lt, e] at q
      simp at q
      omega
/-- lostCapacity() -/
def kX1_lostCapacity : zK := fun as0 st0 P => ∃ xfl : Int32, ∃ xn : Int32, ∃ xcap : Nat → Nat → Int32, ∃ xfs : Nat → Int32, ∃ xss : Nat → Int32, ∃ xbs : Nat → Int32, ∃ xnx : Int32, ∃ xsz : Int32, ∃ xsd : Int32, ∃ xct : Nat → Nat → Int32, ∃ xpa : Nat → Int32, ∃ xla : Nat → Int32, ∃ xsi : Nat → Int32, ∃ xre : Nat → Nat → Int32, ∃ xcf : Nat → Int32, ∃ xfn : Int32, ∃ xrc : Int32, ∃ n : Nat, ∃ K : Nat → Nat → Nat, ∃ B : Nat → Nat → Nat, (cG xn xcap n K) ∧ (cT n xsd xct xpa xla xsi (some B)) ∧ as0 = [.inr (.inl 7)] ∧ st0 = (CW xfl xn xcap xfs xss xbs xnx xsz xsd xct xpa xla xsi xre xcf xfn xrc) ∧ (P (some (.inl (nI (los n B K)))) (CW xfl xn xcap xfs xss xbs xnx xsz xsd xct xpa xla xsi xre xcf xfn xrc))
def iX1_lostCapacity (C0 : zK) : Prop := ∀ {xfl : Int32} {xn : Int32} {xcap : Nat → Nat → Int32} {xfs : Nat → Int32} {xss : Nat → Int32} {xbs : Nat → Int32} {xnx : Int32} {xsz : Int32} {xsd : Int32} {xct : Nat → Nat → Int32} {xpa : Nat → Int32} {xla : Nat → Int32} {xsi : Nat → Int32} {xre : Nat → Nat → Int32} {xcf : Nat → Int32} {xfn : Int32} {xrc : Int32} {n : Nat} {K : Nat → Nat → Nat} {B : Nat → Nat → Nat} {P : zP}, (cG xn xcap n K) → (cT n xsd xct xpa xla xsi (some B)) → (P (some (.inl (nI (los n B K)))) (CW xfl xn xcap xfs xss xbs xnx xsz xsd xct xpa xla xsi xre xcf xfn xrc)) → C0 [.inr (.inl 7)] ((CW xfl xn xcap xfs xss xbs xnx xsz xsd xct xpa xla xsi xre xcf xfn xrc)) P
theorem eX1_lostCapacity : iX1_lostCapacity kX1_lostCapacity := by
  intro xfl xn xcap xfs xss xbs xnx xsz xsd xct xpa xla xsi xre xcf xfn xrc n K B P h0 h1 hz
  exact ⟨xfl, xn, xcap, xfs, xss, xbs, xnx, xsz, xsd, xct, xpa, xla, xsi, xre, xcf, xfn, xrc, n, K, B, h0, h1, rfl, rfl, hz⟩
theorem oX1_lostCapacity (l : Launch) : zOK l RX1 cX1_lostCapacity rX1_lostCapacity (some .int) (tX1_lostCapacity, fX1, gX1, [], [(92, 1)], 1) := ⟨tX1_lostCapacity_ok, fX1_ok, gX1_ok, fun _ h => absurd h List.not_mem_nil, by decide +kernel, rfl⟩
set_option maxRecDepth 100000 in
set_option maxHeartbeats 4000000 in
theorem wX1_lostCapacity {xfl : Int32} {xn : Int32} {xcap : Nat → Nat → Int32} {xfs : Nat → Int32} {xss : Nat → Int32} {xbs : Nat → Int32} {xnx : Int32} {xsz : Int32} {xsd : Int32} {xct : Nat → Nat → Int32} {xpa : Nat → Int32} {xla : Nat → Int32} {xsi : Nat → Int32} {xre : Nat → Nat → Int32} {xcf : Nat → Int32} {xfn : Int32} {xrc : Int32} {n : Nat} {K : Nat → Nat → Nat} {B : Nat → Nat → Nat} {P : zP} (hG : cG xn xcap n K) (hT : cT n xsd xct xpa xla xsi (some B)) (hp : P (some (.inl (nI (los n B K)))) (CW xfl xn xcap xfs xss xbs xnx xsz xsd xct xpa xla xsi xre xcf xfn xrc)) {Z : zH} (hZ : zcl (tX1_lostCapacity, fX1, gX1, [], [(92, 1)], 1) P Z) : Z ((CW xfl xn xcap xfs xss xbs xnx xsz xsd xct xpa xla xsi xre xcf xfn xrc)) 0 [some (.inr (.inl 7)), none, none, none] [] := by
  obtain ⟨rfl, hn1, hn2, hcap, hK⟩ := hG
  rcases hT with ⟨h, -⟩ | ⟨B', h, rfl, hB, hct, -, -, -⟩
  · cases h
  cases h
  have outer : ∀ u, u ≤ n → ∀ o, Z (CW xfl (nI n) xcap xfs xss xbs xnx xsz (1) xct xpa xla xsi xre xcf xfn xrc) 4 [some (.inr (.inl 7)), some (.inl (nI (sm (fun u => sm (fun v => lo B K u v) n) u))), some (.inl (nI u)), o] [] := by
    refine dn (Q := fun u => ∀ o, Z (CW xfl (nI n) xcap xfs xss xbs xnx xsz (1) xct xpa xla xsi xre xcf xfn xrc) 4 [some (.inr (.inl 7)), some (.inl (nI (sm (fun u => sm (fun v => lo B K u v) n) u))), some (.inl (nI u)), o] []) ?_ ?_
    · intro o
      refine hZ [] 40 _ _ _ _ ?_
      exact pk_le n n (fun _ => hp) (fun c => absurd c (by omega))
    · intro u hu ih o
      have inner : ∀ v, v ≤ n → u < v → Z (CW xfl (nI n) xcap xfs xss xbs xnx xsz (1) xct xpa xla xsi xre xcf xfn xrc) 19 [some (.inr (.inl 7)), some (.inl (nI (sm (fun u => sm (fun v => lo B K u v) n) u + sm (fun v => lo B K u v) v))), some (.inl (nI u)), some (.inl (nI v))] [] := by
        refine dn (Q := fun v => u < v → Z (CW xfl (nI n) xcap xfs xss xbs xnx xsz (1) xct xpa xla xsi xre xcf xfn xrc) 19 [some (.inr (.inl 7)), some (.inl (nI (sm (fun u => sm (fun v => lo B K u v) n) u + sm (fun v => lo B K u v) v))), some (.inl (nI u)), some (.inl (nI v))] []) ?_ ?_
        · intro _
          refine hZ [4] 40 _ _ _ _ ?_
          refine pk_le n n (fun _ => ?_) (fun c => absurd c (by omega))
          have h9 := ih (some (.inl (nI n)))
          rw [nI_succ] at h9
          exact h9
        · intro v hv ih2 huv
          refine hZ [19] 60 _ _ _ _ ?_
          refine pk_le n v (fun c => absurd c (by omega)) (fun _ => ?_)
          refine And.intro (in12 (by omega)) ?_
          rw [cl12 (by omega)]
          refine And.intro ⟨by omega, in12 (by omega)⟩ ?_
          rw [cl12 (by omega), hct u v hu (by omega)]
          refine And.intro (in12 (by omega)) ?_
          rw [cl12 (by omega)]
          refine And.intro ⟨by omega, in12 (by omega)⟩ ?_
          rw [cl12 (by omega), hcap u v (by omega) (by omega)]
          have b1 := hB.1 u v
          have b2 := hK.1 u v
          have h9 := ih2 (by omega)
          have e : lo B K u v = B u v - K u v := if_pos huv
          rw [sm, e, ← Nat.add_assoc, ← nI_add, ← imax_sub (by omega) (by omega), nI_succ] at h9
          exact h9
      refine hZ [19] 40 _ _ _ _ ?_
      refine pk_le n u (fun c => absurd c (by omega)) (fun _ => ?_)
      have h9 := inner (u + 1) (by omega) (by omega)
      rw [sm_zero (n := u + 1) (fun i hi => by simp [lo, show ¬ u < i by omega]), Nat.add_zero, nI_succ] at h9
      exact h9
  refine hZ [4] 40 _ _ _ _ ?_
  exact outer 0 (by omega) none
theorem zX1_lostCapacity (l : Launch) : zMet l yX1_lostCapacity cX1_lostCapacity 4 (some .int) rX1_lostCapacity kX1_lostCapacity := zMet_of (by decide) ⟨rfl, rfl⟩ (oX1_lostCapacity l) (fun as0 st0 P h => by
  obtain ⟨xfl, xn, xcap, xfs, xss, xbs, xnx, xsz, xsd, xct, xpa, xla, xsi, xre, xcf, xfn, xrc, n, K, B, h0, h1, rfl, rfl, hz⟩ := h
  exact ⟨Nat.le_of_ble_eq_true rfl, fun Z hZ => wX1_lostCapacity h0 h1 hz hZ⟩)

