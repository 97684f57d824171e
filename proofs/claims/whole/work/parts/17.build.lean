/-! CutTree: building the tree, the sides, freshness, the loss. -/
/-- a row of the tree: NONE for node 0 -/
def cA (n : Nat) (xa : Nat → Int32) (f : Nat → Nat) : Prop := xa 0 = -5 ∧ ∀ k, 0 < k → k < n → xa k = nI (f k)
/-- hasParent(k) -/
def kX1_hasParent : zK := fun as0 st0 P => ∃ xfl : Int32, ∃ xn : Int32, ∃ xcap : Nat → Nat → Int32, ∃ xfs : Nat → Int32, ∃ xss : Nat → Int32, ∃ xbs : Nat → Int32, ∃ xnx : Int32, ∃ xsz : Int32, ∃ xsd : Int32, ∃ xct : Nat → Nat → Int32, ∃ xpa : Nat → Int32, ∃ xla : Nat → Int32, ∃ xsi : Nat → Int32, ∃ xre : Nat → Nat → Int32, ∃ xcf : Nat → Int32, ∃ xfn : Int32, ∃ xrc : Int32, ∃ a : Int32, ∃ n : Nat, ∃ k : Nat, (nI n = xn) ∧ (n ≤ 12) ∧ (a = nI k) ∧ (k < 2 ^ 31) ∧ as0 = [.inr (.inl 7), .inl a] ∧ st0 = (CW xfl xn xcap xfs xss xbs xnx xsz xsd xct xpa xla xsi xre xcf xfn xrc) ∧ (P (some (.inl (b2i (decide (0 < k ∧ k < n))))) (CW xfl xn xcap xfs xss xbs xnx xsz xsd xct xpa xla xsi xre xcf xfn xrc))
def iX1_hasParent (C0 : zK) : Prop := ∀ {xfl : Int32} {xn : Int32} {xcap : Nat → Nat → Int32} {xfs : Nat → Int32} {xss : Nat → Int32} {xbs : Nat → Int32} {xnx : Int32} {xsz : Int32} {xsd : Int32} {xct : Nat → Nat → Int32} {xpa : Nat → Int32} {xla : Nat → Int32} {xsi : Nat → Int32} {xre : Nat → Nat → Int32} {xcf : Nat → Int32} {xfn : Int32} {xrc : Int32} {a : Int32} {n : Nat} {k : Nat} {P : zP}, (nI n = xn) → (n ≤ 12) → (a = nI k) → (k < 2 ^ 31) → (P (some (.inl (b2i (decide (0 < k ∧ k < n))))) (CW xfl xn xcap xfs xss xbs xnx xsz xsd xct xpa xla xsi xre xcf xfn xrc)) → C0 [.inr (.inl 7), .inl a] ((CW xfl xn xcap xfs xss xbs xnx xsz xsd xct xpa xla xsi xre xcf xfn xrc)) P
theorem eX1_hasParent : iX1_hasParent kX1_hasParent := by
  intro xfl xn xcap xfs xss xbs xnx xsz xsd xct xpa xla xsi xre xcf xfn xrc a n k P h0 h1 h2 h3 hz
  exact ⟨xfl, xn, xcap, xfs, xss, xbs, xnx, xsz, xsd, xct, xpa, xla, xsi, xre, xcf, xfn, xrc, a, n, k, h0, h1, h2, h3, rfl, rfl, hz⟩
theorem oX1_hasParent (l : Launch) : zOK l RX1 cX1_hasParent rX1_hasParent (some .boolean) (tX1_hasParent, fX1, gX1, [], [], 2) := ⟨tX1_hasParent_ok, fX1_ok, gX1_ok, fun _ h => absurd h List.not_mem_nil, by decide +kernel, rfl⟩
set_option maxRecDepth 100000 in
set_option maxHeartbeats 4000000 in
theorem wX1_hasParent {xfl : Int32} {xn : Int32} {xcap : Nat → Nat → Int32} {xfs : Nat → Int32} {xss : Nat → Int32} {xbs : Nat → Int32} {xnx : Int32} {xsz : Int32} {xsd : Int32} {xct : Nat → Nat → Int32} {xpa : Nat → Int32} {xla : Nat → Int32} {xsi : Nat → Int32} {xre : Nat → Nat → Int32} {xcf : Nat → Int32} {xfn : Int32} {xrc : Int32} {a : Int32} {n : Nat} {k : Nat} {P : zP} (hn : nI n = xn) (hn2 : n ≤ 12) (ha : a = nI k) (hk : k < 2 ^ 31) (hp : P (some (.inl (b2i (decide (0 < k ∧ k < n))))) (CW xfl xn xcap xfs xss xbs xnx xsz xsd xct xpa xla xsi xre xcf xfn xrc)) {Z : zH} (hZ : zcl (tX1_hasParent, fX1, gX1, [], [], 2) P Z) : Z ((CW xfl xn xcap xfs xss xbs xnx xsz xsd xct xpa xla xsi xre xcf xfn xrc)) 0 [some (.inr (.inl 7)), some (.inl a)] [] := by
  subst ha hn
  refine hZ [] 40 _ _ _ _ ?_
  refine pk_le k 0 (fun c => ?_) (fun c => ?_)
  · rw [decide_eq_false (fun q => by omega)] at hp
    exact And.intro (Or.inl rfl) hp
  · refine pk_le n k (fun c2 => ?_) (fun c2 => ?_)
    · rw [decide_eq_false (fun q => by omega)] at hp
      exact And.intro (Or.inl rfl) hp
    · rw [decide_eq_true ⟨c, c2⟩] at hp
      exact And.intro (Or.inr rfl) hp
theorem zX1_hasParent (l : Launch) : zMet l yX1_hasParent cX1_hasParent 2 (some .boolean) rX1_hasParent kX1_hasParent := zMet_of (by decide) ⟨rfl, rfl⟩ (oX1_hasParent l) (fun as0 st0 P h => by
  obtain ⟨xfl, xn, xcap, xfs, xss, xbs, xnx, xsz, xsd, xct, xpa, xla, xsi, xre, xcf, xfn, xrc, a, n, k, h0, h1, h2, h3, rfl, rfl, hz⟩ := h
  exact ⟨Nat.le_of_ble_eq_true rfl, fun Z hZ => wX1_hasParent h0 h1 h2 h3 hz hZ⟩)

theorem upd_row {n : Nat} {xa : Nat → Int32} {f : Nat → Nat} {k v : Nat} (h : cA n xa f) (hk : k ≠ 0) : cA n (upd xa k (nI v)) (va_up f k v) := by
  refine ⟨by rw [pk_un (Ne.symm hk)]; exact h.1, fun j h1 h2 => ?_⟩
  by_cases e : j = k
  · subst e; rw [pk_us]; simp [va_up]
  · rw [pk_un e, h.2 j h1 h2]; simp [va_up, e]
theorem cA_congr {n : Nat} {xa : Nat → Int32} {f g : Nat → Nat} (h : cA n xa f) (e : ∀ k, 0 < k → k < n → f k = g k) : cA n xa g := ⟨h.1, fun k h1 h2 => by rw [← e k h1 h2]; exact h.2 k h1 h2⟩
/-- splitOff(s, X, w): a step of the building -/
def kX1_splitOff : zK := fun as0 st0 P => ∃ xfl : Int32, ∃ xn : Int32, ∃ xcap : Nat → Nat → Int32, ∃ xfs : Nat → Int32, ∃ xss : Nat → Int32, ∃ xbs : Nat → Int32, ∃ xnx : Int32, ∃ xsz : Int32, ∃ xsd : Int32, ∃ xct : Nat → Nat → Int32, ∃ xpa : Nat → Int32, ∃ xla : Nat → Int32, ∃ xsi : Nat → Int32, ∃ xre : Nat → Nat → Int32, ∃ xcf : Nat → Int32, ∃ xfn : Int32, ∃ xrc : Int32, ∃ n : Nat, ∃ s : Nat, ∃ X : Nat, ∃ w : Nat, ∃ p : Nat → Nat, ∃ la : Nat → Nat, ∃ a : Int32, ∃ b : Int32, ∃ c : Int32, (nI n = xn) ∧ (n ≤ 12) ∧ (a = nI s) ∧ (b = nI X) ∧ (c = nI w) ∧ (0 < s) ∧ (s < n) ∧ (X < 2 ^ n) ∧ (cA n xpa p) ∧ (cA n xla la) ∧ (tI n p) ∧ as0 = [.inr (.inl 7), .inl a, .inl b, .inl c] ∧ st0 = (CW xfl xn xcap xfs xss xbs xnx xsz xsd xct xpa xla xsi xre xcf xfn xrc) ∧ (∀ pa' la', cA n pa' (tst X w s (p s) (p, la)).1 → cA n la' (tst X w s (p s) (p, la)).2 → P none (CW xfl xn xcap xfs xss xbs xnx xsz xsd xct (pa') (la') xsi xre xcf xfn xrc))
def iX1_splitOff (C0 : zK) : Prop := ∀ {xfl : Int32} {xn : Int32} {xcap : Nat → Nat → Int32} {xfs : Nat → Int32} {xss : Nat → Int32} {xbs : Nat → Int32} {xnx : Int32} {xsz : Int32} {xsd : Int32} {xct : Nat → Nat → Int32} {xpa : Nat → Int32} {xla : Nat → Int32} {xsi : Nat → Int32} {xre : Nat → Nat → Int32} {xcf : Nat → Int32} {xfn : Int32} {xrc : Int32} {n : Nat} {s : Nat} {X : Nat} {w : Nat} {p : Nat → Nat} {la : Nat → Nat} {a : Int32} {b : Int32} {c : Int32} {P : zP}, (nI n = xn) → (n ≤ 12) → (a = nI s) → (b = nI X) → (c = nI w) → (0 < s) → (s < n) → (X < 2 ^ n) → (cA n xpa p) → (cA n xla la) → (tI n p) → (∀ pa' la', cA n pa' (tst X w s (p s) (p, la)).1 → cA n la' (tst X w s (p s) (p, la)).2 → P none (CW xfl xn xcap xfs xss xbs xnx xsz xsd xct (pa') (la') xsi xre xcf xfn xrc)) → C0 [.inr (.inl 7), .inl a, .inl b, .inl c] ((CW xfl xn xcap xfs xss xbs xnx xsz xsd xct xpa xla xsi xre xcf xfn xrc)) P
theorem eX1_splitOff : iX1_splitOff kX1_splitOff := by
  intro xfl xn xcap xfs xss xbs xnx xsz xsd xct xpa xla xsi xre xcf xfn xrc n s X w p la a b c P h0 h1 h2 h3 h4 h5 h6 h7 h8 h9 h10 hz
  exact ⟨xfl, xn, xcap, xfs, xss, xbs, xnx, xsz, xsd, xct, xpa, xla, xsi, xre, xcf, xfn, xrc, n, s, X, w, p, la, a, b, c, h0, h1, h2, h3, h4, h5, h6, h7, h8, h9, h10, rfl, rfl, hz⟩
theorem oX1_splitOff (l : Launch) : zOK l RX1 cX1_splitOff rX1_splitOff none (tX1_splitOff, fX1, gX1, [(77, 2, 101, kX4_holds), (81, 1, 1, kX1_hasParent)], [], 0) := ⟨tX1_splitOff_ok, fX1_ok, gX1_ok, List.forall_mem_cons.mpr ⟨⟨yX4_holds, cX4_holds, 2, (some .boolean), rX4_holds, zX4_holds l, by decide +kernel, ykX4_holds, lkX1_77⟩, List.forall_mem_cons.mpr ⟨⟨yX1_hasParent, cX1_hasParent, 2, (some .boolean), rX1_hasParent, zX1_hasParent l, by decide +kernel, ykX1_hasParent, lkX1_81⟩, fun _ h => absurd h List.not_mem_nil⟩⟩, by decide +kernel, rfl⟩
set_option maxRecDepth 100000 in
set_option maxHeartbeats 4000000 in
theorem wX1_splitOff {CX4_holds : zK} (HX4_holds : iX4_holds CX4_holds) {CX1_hasParent : zK} (HX1_hasParent : iX1_hasParent CX1_hasParent) {xfl : Int32} {xn : Int32} {xcap : Nat → Nat → Int32} {xfs : Nat → Int32} {xss : Nat → Int32} {xbs : Nat → Int32} {xnx : Int32} {xsz : Int32} {xsd : Int32} {xct : Nat → Nat → Int32} {xpa : Nat → Int32} {xla : Nat → Int32} {xsi : Nat → Int32} {xre : Nat → Nat → Int32} {xcf : Nat → Int32} {xfn : Int32} {xrc : Int32} {n : Nat} {s : Nat} {X : Nat} {w : Nat} {p : Nat → Nat} {la : Nat → Nat} {a : Int32} {b : Int32} {c : Int32} {P : zP} (hn : nI n = xn) (hn2 : n ≤ 12) (ha : a = nI s) (hb : b = nI X) (hc : c = nI w) (hs0 : 0 < s) (hs : s < n) (hX : X < 2 ^ n) (hpa : cA n xpa p) (hla : cA n xla la) (hT : tI n p) (hp : ∀ pa' la', cA n pa' (tst X w s (p s) (p, la)).1 → cA n la' (tst X w s (p s) (p, la)).2 → P none (CW xfl xn xcap xfs xss xbs xnx xsz xsd xct (pa') (la') xsi xre xcf xfn xrc)) {Z : zH} (hZ : zcl (tX1_splitOff, fX1, gX1, [(77, 2, 101, CX4_holds), (81, 1, 1, CX1_hasParent)], [], 0) P Z) : Z ((CW xfl xn xcap xfs xss xbs xnx xsz xsd xct xpa xla xsi xre xcf xfn xrc)) 0 [some (.inr (.inl 7)), some (.inl a), some (.inl b), some (.inl c), none, none] [] := by
  subst ha hb hc hn
  have p12n := p12 hn2
  have htn := hT.2.1 s hs
  have hts := tI_ne hT hs (by omega)
  have hps := hpa.2 s hs0 hs
  have loop : ∀ m, m ≤ n → 0 < m → ∀ pa', cA n pa' (fun k => if k < m then tp1 X s (p s) p k else p k) → Z (CW xfl (nI n) xcap xfs xss xbs xnx xsz xsd xct (pa') xla xsi xre xcf xfn xrc) 11 [some (.inr (.inl 7)), some (.inl (nI s)), some (.inl (nI X)), some (.inl (nI w)), some (.inl (nI (p s))), some (.inl (nI m))] [] := by
    refine dn (Q := fun m => 0 < m → ∀ pa', cA n pa' (fun k => if k < m then tp1 X s (p s) p k else p k) → Z (CW xfl (nI n) xcap xfs xss xbs xnx xsz xsd xct (pa') xla xsi xre xcf xfn xrc) 11 [some (.inr (.inl 7)), some (.inl (nI s)), some (.inl (nI X)), some (.inl (nI w)), some (.inl (nI (p s))), some (.inl (nI m))] []) ?_ ?_
    · intro _ pa' hpa'
      have hpa1 : cA n pa' (tp1 X s (p s) p) := cA_congr hpa' (fun k _ h => if_pos h)
      have p1lt : ∀ k, k < n → tp1 X s (p s) p k < n := fun k hk => by
        unfold tp1; split
        · exact hs
        · exact hT.2.1 k hk
      refine hZ [] 90 _ _ _ _ ?_
      refine pk_le n n (fun _ => ?_) (fun c => absurd c (by omega))
      refine HX1_hasParent rfl hn2 rfl (by omega) ?_
      have nosw : ¬ (p s ≠ 0 ∧ X.testBit (tp1 X s (p s) p (p s)) = true) → P none (CW xfl (nI n) xcap xfs xss xbs xnx xsz xsd xct (pa') (upd xla s (nI w)) xsi xre xcf xfn xrc) := by
        intro h
        refine hp pa' _ ?_ ?_
        · rw [show tst X w s (p s) (p, la) = (tp1 X s (p s) p, va_up la s w) from if_neg h]
          exact hpa1
        · rw [show tst X w s (p s) (p, la) = (tp1 X s (p s) p, va_up la s w) from if_neg h]
          exact upd_row hla (by omega)
      refine bz (fun hb => ?_) (fun hb => ?_)
      · have h0 : ¬ (0 < p s ∧ p s < n) := of_decide_eq_false hb
        refine And.intro (in12 (by omega)) ?_
        rw [cl12 (by omega)]
        exact nosw (fun q => h0 ⟨by omega, htn⟩)
      · have h0 : 0 < p s ∧ p s < n := of_decide_eq_true hb
        have hpt := hpa1.2 (p s) h0.1 htn
        have hptn := p1lt (p s) htn
        refine And.intro (in12 (by omega)) ?_
        rw [cl12 (by omega), hpt]
        refine HX4_holds rfl rfl (by omega) (by omega) ?_
        refine bz (fun hb2 => ?_) (fun hb2 => ?_)
        · refine And.intro (in12 (by omega)) ?_
          rw [cl12 (by omega)]
          exact nosw (fun q => by rw [hb2] at q; cases q.2)
        · have hsw : p s ≠ 0 ∧ X.testBit (tp1 X s (p s) p (p s)) = true := ⟨by omega, hb2⟩
          refine And.intro (in12 (by omega)) ?_
          rw [cl12 (by omega), hpt]
          refine And.intro (in12 (by omega)) ?_
          rw [cl12 (by omega)]
          refine And.intro (in12 (by omega)) ?_
          rw [cl12 (by omega), hla.2 (p s) h0.1 htn]
          refine And.intro (in12 (by omega)) ?_
          rw [cl12 (by omega)]
          refine And.intro (in12 (by omega)) ?_
          rw [cl12 (by omega)]
          refine And.intro (in12 (by omega)) ?_
          rw [cl12 (by omega)]
          have et : tst X w s (p s) (p, la) = (va_up (va_up (tp1 X s (p s) p) s (tp1 X s (p s) p (p s))) (p s) s, va_up (va_up la s (la (p s))) (p s) w) := if_pos hsw
          refine hp _ _ ?_ ?_
          · rw [et]
            exact upd_row (upd_row hpa1 (by omega)) (by omega)
          · rw [et]
            exact upd_row (upd_row hla (by omega)) (by omega)
    · intro m hm ih hm0 pa' hpa'
      have hX31 : X < 2 ^ 31 := by omega
      have em : pa' m = nI (p m) := by
        have := hpa'.2 m hm0 hm
        dsimp only at this
        rw [if_neg (Nat.lt_irrefl m)] at this
        exact this
      have same : (tp1 X s (p s) p m = p m) → Z (CW xfl (nI n) xcap xfs xss xbs xnx xsz xsd xct (pa') xla xsi xre xcf xfn xrc) 11 [some (.inr (.inl 7)), some (.inl (nI s)), some (.inl (nI X)), some (.inl (nI w)), some (.inl (nI (p s))), some (.inl (nI m + 1))] [] := by
        intro e
        have h9 := ih (by omega) pa' (cA_congr hpa' (fun k _ _ => by
          by_cases e2 : k = m
          · subst e2; simp [e]
          · by_cases h : k < m
            · simp [h, show k < m + 1 by omega]
            · simp [h, show ¬ k < m + 1 by omega]))
        rw [nI_succ] at h9
        exact h9
      refine hZ [11] 60 _ _ _ _ ?_
      refine pk_le n m (fun c => absurd c (by omega)) (fun _ => ?_)
      refine pk_eq m s (fun e => ?_) (fun e => ?_)
      · exact same (by simp [tp1, e])
      · refine HX4_holds rfl rfl hX31 (by omega) ?_
        refine bz (fun hb => ?_) (fun hb => ?_)
        · exact same (by simp [tp1, hb])
        · refine And.intro (in12 (by omega)) ?_
          rw [cl12 (by omega), em]
          have hpm := hT.2.1 m hm
          refine And.intro (fun e2 => ?_) (fun e2 => ?_)
          · exact same (by simp [tp1, show ¬ p m = p s from fun q => e2 (by rw [q])])
          · have e2 : p m = p s := (nI_eq (by omega) (by omega)).mp e2
            refine And.intro (in12 (by omega)) ?_
            rw [cl12 (by omega)]
            have h9 := ih (by omega) (upd pa' m (nI s)) (cA_congr (upd_row (v := s) hpa' (by omega)) (fun k _ _ => by
              by_cases e3 : k = m
              · subst e3
                have : tp1 X s (p s) p k = s := if_pos ⟨e, by omega, hb, e2⟩
                simp [va_up, this]
              · by_cases h : k < m
                · simp [va_up, e3, h, show k < m + 1 by omega]
                · simp [va_up, e3, h, show ¬ k < m + 1 by omega]))
            rw [nI_succ] at h9
            exact h9
  refine hZ [11] 40 _ _ _ _ ?_
  refine And.intro (in12 (by omega)) ?_
  rw [cl12 (by omega), hps]
  exact loop 1 (by omega) (by omega) xpa (cA_congr hpa (fun k h1 _ => by simp [show ¬ k < 1 by omega]))
theorem zX1_splitOff (l : Launch) : zMet l yX1_splitOff cX1_splitOff 6 none rX1_splitOff kX1_splitOff := zMet_of (by decide) ⟨rfl, rfl⟩ (oX1_splitOff l) (fun as0 st0 P h => by
  obtain ⟨xfl, xn, xcap, xfs, xss, xbs, xnx, xsz, xsd, xct, xpa, xla, xsi, xre, xcf, xfn, xrc, n, s, X, w, p, la, a, b, c, h0, h1, h2, h3, h4, h5, h6, h7, h8, h9, h10, rfl, rfl, hz⟩ := h
  exact ⟨Nat.le_of_ble_eq_true rfl, fun Z hZ => wX1_splitOff eX4_holds eX1_hasParent h0 h1 h2 h3 h4 h5 h6 h7 h8 h9 h10 hz hZ⟩)

/-- collectSides() -/
def kX1_collectSides : zK := fun as0 st0 P => ∃ xfl : Int32, ∃ xn : Int32, ∃ xcap : Nat → Nat → Int32, ∃ xfs : Nat → Int32, ∃ xss : Nat → Int32, ∃ xbs : Nat → Int32, ∃ xnx : Int32, ∃ xsz : Int32, ∃ xsd : Int32, ∃ xct : Nat → Nat → Int32, ∃ xpa : Nat → Int32, ∃ xla : Nat → Int32, ∃ xsi : Nat → Int32, ∃ xre : Nat → Nat → Int32, ∃ xcf : Nat → Int32, ∃ xfn : Int32, ∃ xrc : Int32, ∃ n : Nat, ∃ p : Nat → Nat, (nI n = xn) ∧ (0 < n) ∧ (n ≤ 12) ∧ (cA n xpa p) ∧ (tI n p) ∧ as0 = [.inr (.inl 7)] ∧ st0 = (CW xfl xn xcap xfs xss xbs xnx xsz xsd xct xpa xla xsi xre xcf xfn xrc) ∧ (∀ si', (∀ k, k < n → si' k = nI (sd n p k)) → P none (CW xfl xn xcap xfs xss xbs xnx xsz xsd xct xpa xla (si') xre xcf xfn xrc))
def iX1_collectSides (C0 : zK) : Prop := ∀ {xfl : Int32} {xn : Int32} {xcap : Nat → Nat → Int32} {xfs : Nat → Int32} {xss : Nat → Int32} {xbs : Nat → Int32} {xnx : Int32} {xsz : Int32} {xsd : Int32} {xct : Nat → Nat → Int32} {xpa : Nat → Int32} {xla : Nat → Int32} {xsi : Nat → Int32} {xre : Nat → Nat → Int32} {xcf : Nat → Int32} {xfn : Int32} {xrc : Int32} {n : Nat} {p : Nat → Nat} {P : zP}, (nI n = xn) → (0 < n) → (n ≤ 12) → (cA n xpa p) → (tI n p) → (∀ si', (∀ k, k < n → si' k = nI (sd n p k)) → P none (CW xfl xn xcap xfs xss xbs xnx xsz xsd xct xpa xla (si') xre xcf xfn xrc)) → C0 [.inr (.inl 7)] ((CW xfl xn xcap xfs xss xbs xnx xsz xsd xct xpa xla xsi xre xcf xfn xrc)) P
theorem eX1_collectSides : iX1_collectSides kX1_collectSides := by
  intro xfl xn xcap xfs xss xbs xnx xsz xsd xct xpa xla xsi xre xcf xfn xrc n p P h0 h1 h2 h3 h4 hz
  exact ⟨xfl, xn, xcap, xfs, xss, xbs, xnx, xsz, xsd, xct, xpa, xla, xsi, xre, xcf, xfn, xrc, n, p, h0, h1, h2, h3, h4, rfl, rfl, hz⟩
theorem oX1_collectSides (l : Launch) : zOK l RX1 cX1_collectSides rX1_collectSides none (tX1_collectSides, fX1, gX1, [(41, 2, 100, kJ7_fill_53178), (85, 0, 2, kX2_allNodes), (81, 1, 1, kX1_hasParent), (89, 1, 101, kX4_only)], [], 0) := ⟨tX1_collectSides_ok, fX1_ok, gX1_ok, List.forall_mem_cons.mpr ⟨⟨yJ7_fill_53178, cJ7_fill_53178, 4, none, rJ7_fill_53178, zJ7_fill_53178 l, by decide +kernel, ykJ7_fill_53178, lkX1_41⟩, List.forall_mem_cons.mpr ⟨⟨yX2_allNodes, cX2_allNodes, 1, (some .int), rX2_allNodes, zX2_allNodes l, by decide +kernel, ykX2_allNodes, lkX1_85⟩, List.forall_mem_cons.mpr ⟨⟨yX1_hasParent, cX1_hasParent, 2, (some .boolean), rX1_hasParent, zX1_hasParent l, by decide +kernel, ykX1_hasParent, lkX1_81⟩, List.forall_mem_cons.mpr ⟨⟨yX4_only, cX4_only, 1, (some .int), rX4_only, zX4_only l, by decide +kernel, ykX4_only, lkX1_89⟩, fun _ h => absurd h List.not_mem_nil⟩⟩⟩⟩, by decide +kernel, rfl⟩
set_option maxRecDepth 100000 in
set_option maxHeartbeats 4000000 in
theorem wX1_collectSides {CJ7_fill_53178 : zK} (HJ7_fill_53178 : iJ7_fill_53178 CJ7_fill_53178) {CX2_allNodes : zK} (HX2_allNodes : iX2_allNodes CX2_allNodes) {CX1_hasParent : zK} (HX1_hasParent : iX1_hasParent CX1_hasParent) {CX4_only : zK} (HX4_only : iX4_only CX4_only) {xfl : Int32} {xn : Int32} {xcap : Nat → Nat → Int32} {xfs : Nat → Int32} {xss : Nat → Int32} {xbs : Nat → Int32} {xnx : Int32} {xsz : Int32} {xsd : Int32} {xct : Nat → Nat → Int32} {xpa : Nat → Int32} {xla : Nat → Int32} {xsi : Nat → Int32} {xre : Nat → Nat → Int32} {xcf : Nat → Int32} {xfn : Int32} {xrc : Int32} {n : Nat} {p : Nat → Nat} {P : zP} (hn : nI n = xn) (hn1 : 0 < n) (hn2 : n ≤ 12) (hpa : cA n xpa p) (hT : tI n p) (hp : ∀ si', (∀ k, k < n → si' k = nI (sd n p k)) → P none (CW xfl xn xcap xfs xss xbs xnx xsz xsd xct xpa xla (si') xre xcf xfn xrc)) {Z : zH} (hZ : zcl (tX1_collectSides, fX1, gX1, [(41, 2, 100, CJ7_fill_53178), (85, 0, 2, CX2_allNodes), (81, 1, 1, CX1_hasParent), (89, 1, 101, CX4_only)], [], 0) P Z) : Z ((CW xfl xn xcap xfs xss xbs xnx xsz xsd xct xpa xla xsi xre xcf xfn xrc)) 0 [some (.inr (.inl 7)), none, none, none] [] := by
  subst hn
  have p12n := p12 hn2
  have outer : ∀ x, x ≤ n → 0 < x → ∀ (si' : Nat → Int32) (o2 o3 : Option zV), (∀ a, 0 < a → a < n → si' a = nI (bset (fun y => anb p a n y) x)) → si' 0 = nI (2 ^ n - 1) → Z (CW xfl (nI n) xcap xfs xss xbs xnx xsz xsd xct xpa xla (si') xre xcf xfn xrc) 23 [some (.inr (.inl 7)), some (.inl (nI x)), o2, o3] [] := by
    refine dn (Q := fun x => 0 < x → ∀ (si' : Nat → Int32) (o2 o3 : Option zV), (∀ a, 0 < a → a < n → si' a = nI (bset (fun y => anb p a n y) x)) → si' 0 = nI (2 ^ n - 1) → Z (CW xfl (nI n) xcap xfs xss xbs xnx xsz xsd xct xpa xla (si') xre xcf xfn xrc) 23 [some (.inr (.inl 7)), some (.inl (nI x)), o2, o3] []) ?_ ?_
    · intro _ si' o2 o3 h1 h2
      refine hZ [] 40 _ _ _ _ ?_
      refine pk_le n n (fun _ => ?_) (fun c => absurd c (by omega))
      refine hp si' (fun k hk => ?_)
      by_cases e : k = 0
      · subst e; rw [h2, sd_0 hT]
      · exact h1 k (by omega) hk
    · intro x hx ih hx0 si' o2 o3 h1 h2
      have inner : ∀ m, m ≤ n → ∀ si', (∀ a, 0 < a → a < n → si' a = nI (bset (fun y => anb p a n y) x ||| (if anb p a m x = true then 2 ^ x else 0))) → si' 0 = nI (2 ^ n - 1) → Z (CW xfl (nI n) xcap xfs xss xbs xnx xsz xsd xct xpa xla (si') xre xcf xfn xrc) 38 [some (.inr (.inl 7)), some (.inl (nI x)), some (.inl (nI (it p m x))), some (.inl (nI m))] [] := by
        refine dn (Q := fun m => ∀ si', (∀ a, 0 < a → a < n → si' a = nI (bset (fun y => anb p a n y) x ||| (if anb p a m x = true then 2 ^ x else 0))) → si' 0 = nI (2 ^ n - 1) → Z (CW xfl (nI n) xcap xfs xss xbs xnx xsz xsd xct xpa xla (si') xre xcf xfn xrc) 38 [some (.inr (.inl 7)), some (.inl (nI x)), some (.inl (nI (it p m x))), some (.inl (nI m))] []) ?_ ?_
        · intro si' h1 h2
          refine hZ [23] 40 _ _ _ _ ?_
          refine pk_le n n (fun _ => ?_) (fun c => absurd c (by omega))
          have h9 := ih (by omega) si' (some (.inl (nI (it p n x)))) (some (.inl (nI n))) (fun a ha1 ha2 => by rw [h1 a ha1 ha2]; rfl) h2
          rw [nI_succ] at h9
          exact h9
        · intro m hm ih2 si' h1 h2
          have hlt := it_lt hT m x hx
          refine hZ [23, 38] 60 _ _ _ _ ?_
          refine pk_le n m (fun c => absurd c (by omega)) (fun _ => ?_)
          refine HX1_hasParent rfl hn2 rfl (by omega) ?_
          refine bz (fun hb => ?_) (fun hb => ?_)
          · have h0 : it p m x = 0 := by
              have := of_decide_eq_false hb
              omega
            have h9 := ih (by omega) si' (some (.inl (nI (it p m x)))) (some (.inl (nI m))) (fun a ha1 ha2 => by
              rw [h1 a ha1 ha2]
              have e : anb p a n x = anb p a m x := by
                cases q : anb p a m x with
                | true =>
                  obtain ⟨j, hj, he⟩ := (anb_iff m).mp q
                  exact (anb_iff n).mpr ⟨j, by omega, he⟩
                | false =>
                  cases q2 : anb p a n x with
                  | false => rfl
                  | true =>
                    obtain ⟨j, hj, he⟩ := (anb_iff n).mp q2
                    rcases Nat.lt_or_ge j m with z | z
                    · rw [(anb_iff m).mpr ⟨j, z, he⟩] at q; cases q
                    · rw [show j = (j - m) + m by omega, it_add, h0, it_zero hT.1] at he
                      omega
              rw [bset, e]) h2
            rw [nI_succ] at h9
            exact h9
          · have h0 : 0 < it p m x := (of_decide_eq_true hb).1
            refine And.intro (in12 (by omega)) ?_
            rw [cl12 (by omega), h1 _ h0 hlt]
            refine HX4_only rfl (by omega) ?_
            refine And.intro (in12 (by omega)) ?_
            rw [cl12 (by omega), bI_or]
            refine And.intro (in12 (by omega)) ?_
            rw [cl12 (by omega), hpa.2 _ h0 hlt]
            have h9 := ih2 (upd si' (it p m x) (nI (bset (fun y => anb p (it p m x) n y) x ||| (if anb p (it p m x) m x = true then 2 ^ x else 0) ||| 2 ^ x))) (fun a ha1 ha2 => by
              by_cases e : a = it p m x
              · subst e
                rw [pk_us]
                have e1 : anb p (it p m x) (m + 1) x = true := (anb_iff (m + 1)).mpr ⟨m, by omega, rfl⟩
                rw [e1, if_pos rfl]
                congr 1
                split
                · rw [Nat.or_assoc, Nat.or_self]
                · rw [Nat.or_zero]
              · rw [pk_un e, h1 a ha1 ha2]
                have e1 : anb p a (m + 1) x = anb p a m x := by
                  rw [anb, decide_eq_false (Ne.symm e), Bool.or_false]
                rw [e1]) (by rw [pk_un (by omega)]; exact h2)
            rw [nI_succ, it_succ] at h9
            exact h9
      refine hZ [38] 40 _ _ _ _ ?_
      refine pk_le n x (fun c => absurd c (by omega)) (fun _ => ?_)
      exact inner 0 (by omega) si' (fun a ha1 ha2 => by rw [h1 a ha1 ha2]; simp [anb]) h2
  refine hZ [23] 40 _ _ _ _ ?_
  refine HJ7_fill_53178 (Or.inr (Or.inr (Or.inr ⟨rfl, rfl, rfl, rfl, rfl⟩))) ?_
  refine HX2_allNodes rfl hn2 ?_
  refine And.intro (in12 (u := 0) (by omega)) ?_
  have e0 : (0 : Int32).toNatClampNeg = 0 := by decide
  rw [e0]
  refine outer 1 (by omega) (by omega) _ none none (fun a ha1 ha2 => ?_) pk_us
  rw [pk_un (by omega), fillv, if_pos (by omega)]
  have hb : bset (fun y => anb p a n y) 1 = 0 := by
    have e : anb p a n 0 = false := by
      cases q : anb p a n 0 with
      | false => rfl
      | true =>
        obtain ⟨j, hj, he⟩ := (anb_iff n).mp q
        rw [it_zero hT.1] at he
        omega
    simp [bset, e]
  rw [hb]
  rfl
theorem zX1_collectSides (l : Launch) : zMet l yX1_collectSides cX1_collectSides 4 none rX1_collectSides kX1_collectSides := zMet_of (by decide) ⟨rfl, rfl⟩ (oX1_collectSides l) (fun as0 st0 P h => by
  obtain ⟨xfl, xn, xcap, xfs, xss, xbs, xnx, xsz, xsd, xct, xpa, xla, xsi, xre, xcf, xfn, xrc, n, p, h0, h1, h2, h3, h4, rfl, rfl, hz⟩ := h
  exact ⟨Nat.le_of_ble_eq_true rfl, fun Z hZ => wX1_collectSides eJ7_fill_53178 eX2_allNodes eX1_hasParent eX4_only h0 h1 h2 h3 h4 hz hZ⟩)

