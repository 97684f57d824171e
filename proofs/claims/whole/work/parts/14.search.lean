/-! The search for a path. -/
def clo (n : Nat) (r : Nat → Nat → Nat) (X : Nat) : Prop := ∀ u v, u < n → v < n → X.testBit u = true → 0 < r u v → X.testBit v = true
def bfI (n s t : Nat) (r : Nat → Nat → Nat) (R w : Nat) (Q : Nat → Nat) (xqu xcf : Nat → Int32) (cf : Nat → Nat) : Prop :=
  R < 2 ^ n ∧ R.testBit s = true ∧ R.testBit t = false ∧ w = cnt n R ∧ (∀ i, i < w → Q i < n ∧ R.testBit (Q i) = true ∧ xqu i = nI (Q i) ∧ ∃ k, k ≤ i ∧ pth n r xcf cf R s k (Q i)) ∧ (∀ v, R.testBit v = true → ∃ i, i < w ∧ Q i = v) ∧ (∀ X : Nat, X.testBit s = true → clo n r X → ∀ v, R.testBit v = true → X.testBit v = true)
theorem bfI_add {n s t R w u v h : Nat} {r : Nat → Nat → Nat} {Q : Nat → Nat} {xqu xcf : Nat → Int32} {cf : Nat → Nat} (H : bfI n s t r R w Q xqu xcf cf) (hw : h < w) (hu : u = Q h) (hv : v < n) (hR : R.testBit v = false) (hr : 0 < r u v) (hvt : v ≠ t) : bfI n s t r (R ||| 2 ^ v) (w + 1) (va_up Q w v) (upd xqu w (nI v)) (upd xcf v (nI u)) (va_up cf v u) := by
  obtain ⟨h1, h2, h3, h4, h5, h6, h7⟩ := H
  subst hu
  have hvs : v ≠ s := fun q => by rw [q, h2] at hR; cases hR
  obtain ⟨hun, huR, -, k0, hk0, hp0⟩ := h5 h hw
  refine ⟨or_lt h1 hv, by rw [bit_or, h2]; rfl, by rw [bit_or, h3]; simp [hvt], by rw [cnt_add hv hR, h4], fun i hi => ?_, fun x hx => ?_, fun X hX hcl x hx => ?_⟩
  · by_cases e : i = w
    · subst e
      have e1 : va_up Q i v i = v := if_pos rfl
      rw [e1]
      exact ⟨hv, by rw [bit_or]; simp, pk_us, k0 + 1, by omega, pth_new hR hvs hv huR hun hr hp0⟩
    · have e1 : va_up Q w v i = Q i := if_neg e
      obtain ⟨a1, a2, a3, k, a4, a5⟩ := h5 i (by omega)
      rw [e1]
      exact ⟨a1, by rw [bit_or, a2]; rfl, by rw [pk_un e]; exact a3, k, a4, pth_grow hR k (Q i) a2 a5⟩
  · rw [bit_or] at hx
    cases hb : R.testBit x with
    | true =>
      obtain ⟨i, hi, hq⟩ := h6 x hb
      exact ⟨i, by omega, by rw [show va_up Q w v i = Q i from if_neg (by omega)]; exact hq⟩
    | false =>
      rw [hb] at hx
      have : v = x := by simpa using hx
      subst this
      exact ⟨w, by omega, if_pos rfl⟩
  · rw [bit_or] at hx
    cases hb : R.testBit x with
    | true => exact h7 X hX hcl x hb
    | false =>
      rw [hb] at hx
      have : v = x := by simpa using hx
      subst this
      exact hcl (Q h) v hun hv (h7 X hX hcl _ huR) hr
/-- findPath(s, t) -/
def kX3_findPath : zK := fun as0 st0 P => ∃ xfl : Int32, ∃ xn : Int32, ∃ xcap : Nat → Nat → Int32, ∃ xfs : Nat → Int32, ∃ xss : Nat → Int32, ∃ xbs : Nat → Int32, ∃ xnx : Int32, ∃ xsz : Int32, ∃ xsd : Int32, ∃ xct : Nat → Nat → Int32, ∃ xpa : Nat → Int32, ∃ xla : Nat → Int32, ∃ xsi : Nat → Int32, ∃ xre : Nat → Nat → Int32, ∃ xqu : Nat → Int32, ∃ xcf : Nat → Int32, ∃ xfn : Int32, ∃ xrc : Int32, ∃ n : Nat, ∃ r : Nat → Nat → Nat, ∃ s : Nat, ∃ t : Nat, ∃ a : Int32, ∃ b : Int32, (nI n = xfn) ∧ (n ≤ 12) ∧ (fR n xre r) ∧ (∀ i j, r i j < 2 ^ 31) ∧ (a = nI s) ∧ (b = nI t) ∧ (s < n) ∧ (t < n) ∧ (s ≠ t) ∧ as0 = [.inr (.inl 8), .inl a, .inl b] ∧ st0 = (CW xfl xn xcap xfs xss xbs xnx xsz xsd xct xpa xla xsi xre xqu xcf xfn xrc) ∧ ((∀ R qu' cf', R < 2 ^ n → R.testBit s = true → R.testBit t = false → clo n r R → (∀ X : Nat, X.testBit s = true → clo n r X → ∀ v, R.testBit v = true → X.testBit v = true) → P (some (.inl 0)) (CW xfl xn xcap xfs xss xbs xnx xsz xsd xct xpa xla xsi xre (qu') (cf') xfn (nI R))) ∧ (∀ R k cf rc' qu' cf', k < n → pth n r cf' cf R s k t → P (some (.inl 1)) (CW xfl xn xcap xfs xss xbs xnx xsz xsd xct xpa xla xsi xre (qu') (cf') xfn (rc'))))
def iX3_findPath (C0 : zK) : Prop := ∀ {xfl : Int32} {xn : Int32} {xcap : Nat → Nat → Int32} {xfs : Nat → Int32} {xss : Nat → Int32} {xbs : Nat → Int32} {xnx : Int32} {xsz : Int32} {xsd : Int32} {xct : Nat → Nat → Int32} {xpa : Nat → Int32} {xla : Nat → Int32} {xsi : Nat → Int32} {xre : Nat → Nat → Int32} {xqu : Nat → Int32} {xcf : Nat → Int32} {xfn : Int32} {xrc : Int32} {n : Nat} {r : Nat → Nat → Nat} {s : Nat} {t : Nat} {a : Int32} {b : Int32} {P : zP}, (nI n = xfn) → (n ≤ 12) → (fR n xre r) → (∀ i j, r i j < 2 ^ 31) → (a = nI s) → (b = nI t) → (s < n) → (t < n) → (s ≠ t) → ((∀ R qu' cf', R < 2 ^ n → R.testBit s = true → R.testBit t = false → clo n r R → (∀ X : Nat, X.testBit s = true → clo n r X → ∀ v, R.testBit v = true → X.testBit v = true) → P (some (.inl 0)) (CW xfl xn xcap xfs xss xbs xnx xsz xsd xct xpa xla xsi xre (qu') (cf') xfn (nI R))) ∧ (∀ R k cf rc' qu' cf', k < n → pth n r cf' cf R s k t → P (some (.inl 1)) (CW xfl xn xcap xfs xss xbs xnx xsz xsd xct xpa xla xsi xre (qu') (cf') xfn (rc')))) → C0 [.inr (.inl 8), .inl a, .inl b] ((CW xfl xn xcap xfs xss xbs xnx xsz xsd xct xpa xla xsi xre xqu xcf xfn xrc)) P
theorem eX3_findPath : iX3_findPath kX3_findPath := by
  intro xfl xn xcap xfs xss xbs xnx xsz xsd xct xpa xla xsi xre xqu xcf xfn xrc n r s t a b P h0 h1 h2 h3 h4 h5 h6 h7 h8 hz
  exact ⟨xfl, xn, xcap, xfs, xss, xbs, xnx, xsz, xsd, xct, xpa, xla, xsi, xre, xqu, xcf, xfn, xrc, n, r, s, t, a, b, h0, h1, h2, h3, h4, h5, h6, h7, h8, rfl, rfl, hz⟩
theorem oX3_findPath (l : Launch) : zOK l RX3 cX3_findPath rX3_findPath (some .boolean) (tX3_findPath, fX3, gX3, [(54, 1, 101, kX4_only), (58, 2, 101, kX4_holds)], [], 2) := ⟨tX3_findPath_ok, fX3_ok, gX3_ok, List.forall_mem_cons.mpr ⟨⟨yX4_only, cX4_only, 1, (some .int), rX4_only, zX4_only l, by decide +kernel, ykX4_only, lkX3_54⟩, List.forall_mem_cons.mpr ⟨⟨yX4_holds, cX4_holds, 2, (some .boolean), rX4_holds, zX4_holds l, by decide +kernel, ykX4_holds, lkX3_58⟩, fun _ h => absurd h List.not_mem_nil⟩⟩, by decide +kernel, rfl⟩
set_option maxRecDepth 100000 in
set_option maxHeartbeats 4000000 in
theorem wX3_findPath {CX4_only : zK} (HX4_only : iX4_only CX4_only) {CX4_holds : zK} (HX4_holds : iX4_holds CX4_holds) {xfl : Int32} {xn : Int32} {xcap : Nat → Nat → Int32} {xfs : Nat → Int32} {xss : Nat → Int32} {xbs : Nat → Int32} {xnx : Int32} {xsz : Int32} {xsd : Int32} {xct : Nat → Nat → Int32} {xpa : Nat → Int32} {xla : Nat → Int32} {xsi : Nat → Int32} {xre : Nat → Nat → Int32} {xqu : Nat → Int32} {xcf : Nat → Int32} {xfn : Int32} {xrc : Int32} {n : Nat} {r : Nat → Nat → Nat} {s : Nat} {t : Nat} {a : Int32} {b : Int32} {P : zP} (hfn : nI n = xfn) (hn2 : n ≤ 12) (hre : fR n xre r) (hr : ∀ i j, r i j < 2 ^ 31) (ha : a = nI s) (hb : b = nI t) (hs : s < n) (ht : t < n) (hst : s ≠ t) (hp : (∀ R qu' cf', R < 2 ^ n → R.testBit s = true → R.testBit t = false → clo n r R → (∀ X : Nat, X.testBit s = true → clo n r X → ∀ v, R.testBit v = true → X.testBit v = true) → P (some (.inl 0)) (CW xfl xn xcap xfs xss xbs xnx xsz xsd xct xpa xla xsi xre (qu') (cf') xfn (nI R))) ∧ (∀ R k cf rc' qu' cf', k < n → pth n r cf' cf R s k t → P (some (.inl 1)) (CW xfl xn xcap xfs xss xbs xnx xsz xsd xct xpa xla xsi xre (qu') (cf') xfn (rc')))) {Z : zH} (hZ : zcl (tX3_findPath, fX3, gX3, [(54, 1, 101, CX4_only), (58, 2, 101, CX4_holds)], [], 2) P Z) : Z ((CW xfl xn xcap xfs xss xbs xnx xsz xsd xct xpa xla xsi xre xqu xcf xfn xrc)) 0 [some (.inr (.inl 8)), some (.inl a), some (.inl b), none, none, none, none] [] := by
  subst ha hb hfn
  have p12n := p12 hn2
  have outer : ∀ h, h ≤ n → ∀ (R w : Nat) (Q : Nat → Nat) (qu' cf' : Nat → Int32) (cf : Nat → Nat) (o5 o6 : Option zV), bfI n s t r R w Q qu' cf' cf → h ≤ w → (∀ i v, i < h → v < n → 0 < r (Q i) v → R.testBit v = true) → Z (CW xfl xn xcap xfs xss xbs xnx xsz xsd xct xpa xla xsi xre (qu') (cf') (nI n) (nI R)) 20 [some (.inr (.inl 8)), some (.inl (nI s)), some (.inl (nI t)), some (.inl (nI w)), some (.inl (nI h)), o5, o6] [] := by
    have exit : ∀ (h R w : Nat) (Q : Nat → Nat) (qu' cf' : Nat → Int32) (cf : Nat → Nat), bfI n s t r R w Q qu' cf' cf → h = w → (∀ i v, i < h → v < n → 0 < r (Q i) v → R.testBit v = true) → P (some (.inl 0)) (CW xfl xn xcap xfs xss xbs xnx xsz xsd xct xpa xla xsi xre (qu') (cf') (nI n) (nI R)) := by
      intro h R w Q qu' cf' cf H e hc
      obtain ⟨h1, h2, h3, h4, h5, h6, h7⟩ := H
      refine hp.1 R qu' cf' h1 h2 h3 (fun u v hu hv hR hruv => ?_) h7
      obtain ⟨i, hi, hq⟩ := h6 u hR
      subst hq
      exact hc i v (by omega) hv hruv
    refine dn (Q := fun h => ∀ (R w : Nat) (Q : Nat → Nat) (qu' cf' : Nat → Int32) (cf : Nat → Nat) (o5 o6 : Option zV), bfI n s t r R w Q qu' cf' cf → h ≤ w → (∀ i v, i < h → v < n → 0 < r (Q i) v → R.testBit v = true) → Z (CW xfl xn xcap xfs xss xbs xnx xsz xsd xct xpa xla xsi xre (qu') (cf') (nI n) (nI R)) 20 [some (.inr (.inl 8)), some (.inl (nI s)), some (.inl (nI t)), some (.inl (nI w)), some (.inl (nI h)), o5, o6] []) ?_ ?_
    · intro R w Q qu' cf' cf o5 o6 H hw hc
      have hwn : w ≤ n := by rw [H.2.2.2.1]; exact cnt_le n R
      refine hZ [] 40 _ _ _ _ ?_
      refine pk_le w n (fun _ => ?_) (fun c => absurd c (by omega))
      exact And.intro (Or.inl rfl) (exit n R w Q qu' cf' cf H (by omega) hc)
    · intro h hh ih R w Q qu' cf' cf o5 o6 H hw hc
      have hwn : w ≤ n := by rw [H.2.2.2.1]; exact cnt_le n R
      have inner : ∀ v, v ≤ n → ∀ (R w : Nat) (Q : Nat → Nat) (qu' cf' : Nat → Int32) (cf : Nat → Nat), bfI n s t r R w Q qu' cf' cf → h < w → (∀ i v, i < h → v < n → 0 < r (Q i) v → R.testBit v = true) → (∀ v', v' < v → 0 < r (Q h) v' → R.testBit v' = true) → Z (CW xfl xn xcap xfs xss xbs xnx xsz xsd xct xpa xla xsi xre (qu') (cf') (nI n) (nI R)) 47 [some (.inr (.inl 8)), some (.inl (nI s)), some (.inl (nI t)), some (.inl (nI w)), some (.inl (nI h)), some (.inl (nI (Q h))), some (.inl (nI v))] [] := by
        refine dn (Q := fun v => ∀ (R w : Nat) (Q : Nat → Nat) (qu' cf' : Nat → Int32) (cf : Nat → Nat), bfI n s t r R w Q qu' cf' cf → h < w → (∀ i v, i < h → v < n → 0 < r (Q i) v → R.testBit v = true) → (∀ v', v' < v → 0 < r (Q h) v' → R.testBit v' = true) → Z (CW xfl xn xcap xfs xss xbs xnx xsz xsd xct xpa xla xsi xre (qu') (cf') (nI n) (nI R)) 47 [some (.inr (.inl 8)), some (.inl (nI s)), some (.inl (nI t)), some (.inl (nI w)), some (.inl (nI h)), some (.inl (nI (Q h))), some (.inl (nI v))] []) ?_ ?_
        · intro R w Q qu' cf' cf H hw hc hv
          refine hZ [20] 40 _ _ _ _ ?_
          refine pk_le n n (fun _ => ?_) (fun c => absurd c (by omega))
          have h9 := ih R w Q qu' cf' cf (some (.inl (nI (Q h)))) (some (.inl (nI n))) H (by omega) (fun i v hi hvn hrr => by
            by_cases e : i = h
            · subst e; exact hv v hvn hrr
            · exact hc i v (by omega) hvn hrr)
          rw [nI_succ] at h9
          exact h9
        · intro v hv ih2 R w Q qu' cf' cf H hw hc hcv
          obtain ⟨hQn, hQR, -, -⟩ := H.2.2.2.2.1 h hw
          have hR31 : R < 2 ^ 31 := by have := H.1; omega
          refine hZ [47] 90 _ _ _ _ ?_
          refine pk_le n v (fun c => absurd c (by omega)) (fun _ => ?_)
          refine And.intro (in12 (by omega)) ?_
          rw [cl12 (by omega)]
          refine And.intro ⟨by omega, in12 (by omega)⟩ ?_
          rw [cl12 (by omega), hre _ _ hQn hv]
          have hrr := hr (Q h) v
          refine pk_le (r (Q h) v) 0 (fun c => ?_) (fun c => ?_)
          · have h9 := ih2 R w Q qu' cf' cf H hw hc (fun v' hv' hr' => by
              by_cases e : v' = v
              · subst e; omega
              · exact hcv v' (by omega) hr')
            rw [nI_succ] at h9
            exact h9
          · refine HX4_holds rfl rfl hR31 (by omega) ?_
            refine bn (fun hb => ?_) (fun hb => ?_)
            · have h9 := ih2 R w Q qu' cf' cf H hw hc (fun v' hv' hr' => by
                by_cases e : v' = v
                · subst e; exact hb
                · exact hcv v' (by omega) hr')
              rw [nI_succ] at h9
              exact h9
            · refine HX4_only rfl (by omega) ?_
              refine And.intro (in12 (by omega)) ?_
              rw [cl12 (by omega), bI_or]
              have hvs : v ≠ s := fun q => by rw [q, H.2.1] at hb; cases hb
              refine And.intro (fun hvt => ?_) (fun hvt => ?_)
              · have hvt : v ≠ t := fun q => hvt (by rw [q])
                have hwlt : w < n := by rw [H.2.2.2.1]; exact cnt_lt hv hb
                refine And.intro (in12 (by omega)) ?_
                rw [cl12 (by omega)]
                have H2 := bfI_add H hw rfl hv hb c hvt
                have eQ : va_up Q w v h = Q h := if_neg (by omega)
                have h9 := ih2 _ _ _ _ _ _ H2 (by omega) (fun i x hi hx hrx => by
                  rw [show va_up Q w v i = Q i from if_neg (by omega)] at hrx
                  rw [bit_or, hc i x hi hx hrx]; rfl) (fun x hx hrx => by
                  rw [eQ] at hrx
                  rw [bit_or]
                  by_cases e : x = v
                  · subst e; simp
                  · rw [hcv x (by omega) hrx]; rfl)
                rw [nI_succ, nI_succ, eQ] at h9
                exact h9
              · have hvt : v = t := (nI_eq (by omega) (by omega)).mp hvt
                subst hvt
                obtain ⟨-, -, -, k0, hk0, hp0⟩ := H.2.2.2.2.1 h hw
                have hwlt : w < n := by rw [H.2.2.2.1]; exact cnt_lt hv hb
                exact And.intro (Or.inr rfl) (hp.2 _ (k0 + 1) _ _ _ _ (by omega) (pth_new hb hvs hv hQR hQn c hp0))
      by_cases e : h = w
      · refine hZ [] 40 _ _ _ _ ?_
        refine pk_le w h (fun _ => ?_) (fun c => absurd c (by omega))
        exact And.intro (Or.inl rfl) (exit h R w Q qu' cf' cf H e hc)
      · refine hZ [47] 40 _ _ _ _ ?_
        refine pk_le w h (fun c => absurd c (by omega)) (fun _ => ?_)
        refine pk_le n h (fun c => absurd c (by omega)) (fun _ => ?_)
        refine And.intro (in12 (by omega)) ?_
        rw [cl12 (by omega), (H.2.2.2.2.1 h (by omega)).2.2.1]
        exact inner 0 (by omega) R w Q qu' cf' cf H (by omega) hc (fun v' hv' => absurd hv' (by omega))
  refine hZ [20] 40 _ _ _ _ ?_
  refine HX4_only rfl (by omega) ?_
  refine And.intro (in12 (u := 0) (by omega)) ?_
  have e0 : (0 : Int32).toNatClampNeg = 0 := by decide
  rw [e0]
  refine outer 0 (by omega) (2 ^ s) 1 (fun _ => s) _ xcf (fun _ => 0) none none ⟨Nat.pow_lt_pow_right (by decide) hs, by rw [Nat.testBit_two_pow]; simp, by rw [Nat.testBit_two_pow]; simpa using hst, ?_, fun i hi => ?_, fun v hv => ?_, fun X hX _ v hv => ?_⟩ (by omega) (fun i _ hi => absurd hi (by omega))
  · have h1 := cnt_add (S := 0) hs (by simp)
    have h2 : cnt n 0 = 0 := sm_zero (fun i _ => by simp)
    rw [Nat.zero_or] at h1
    omega
  · obtain rfl : i = 0 := by omega
    exact ⟨hs, by rw [Nat.testBit_two_pow]; simp, pk_us, 0, Nat.le_refl _, rfl⟩
  · rw [Nat.testBit_two_pow] at hv
    exact ⟨0, by omega, by simpa using hv⟩
  · rw [Nat.testBit_two_pow] at hv
    have : s = v := by simpa using hv
    subst this
    exact hX
theorem zX3_findPath (l : Launch) : zMet l yX3_findPath cX3_findPath 7 (some .boolean) rX3_findPath kX3_findPath := zMet_of (by decide) ⟨rfl, rfl⟩ (oX3_findPath l) (fun as0 st0 P h => by
  obtain ⟨xfl, xn, xcap, xfs, xss, xbs, xnx, xsz, xsd, xct, xpa, xla, xsi, xre, xqu, xcf, xfn, xrc, n, r, s, t, a, b, h0, h1, h2, h3, h4, h5, h6, h7, h8, rfl, rfl, hz⟩ := h
  exact ⟨Nat.le_of_ble_eq_true rfl, fun Z hZ => wX3_findPath eX4_only eX4_holds h0 h1 h2 h3 h4 h5 h6 h7 h8 hz hZ⟩)

