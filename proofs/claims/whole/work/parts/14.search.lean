/-! The search for a path, layer by layer. -/
def clo (n : Nat) (r : Nat → Nat → Nat) (X : Nat) : Prop := ∀ u v, u < n → v < n → X.testBit u = true → 0 < r u v → X.testBit v = true
theorem bI_less (a b : Nat) : nI a &&& (nI b ^^^ (-1)) = nI (a &&& (a ^^^ b)) := by
  apply Int32.toBitVec_inj.1
  show BitVec.ofNat 32 a &&& (BitVec.ofNat 32 b ^^^ BitVec.allOnes 32) = BitVec.ofNat 32 (a &&& (a ^^^ b))
  apply BitVec.eq_of_getLsbD_eq
  intro i hi
  simp only [BitVec.getLsbD_and, BitVec.getLsbD_xor, BitVec.getLsbD_ofNat, BitVec.getLsbD_allOnes, hi, decide_true, Bool.true_and, Nat.testBit_and, Nat.testBit_xor]
  cases a.testBit i <;> cases b.testBit i <;> rfl
/-- ahead of layer l: R is reached, L is the latest layer -/
def bfI (n s : Nat) (r : Nat → Nat → Nat) (l R L : Nat) (xcf : Nat → Int32) (cf : Nat → Nat) : Prop :=
  R < 2 ^ n ∧ R.testBit s = true ∧ L < 2 ^ n ∧ (∀ v, L.testBit v = true → R.testBit v = true) ∧ (∀ v, R.testBit v = true → ∃ k, k < l ∧ pth n r xcf cf R s k v) ∧ (∀ u v, u < n → v < n → R.testBit u = true → L.testBit u = false → 0 < r u v → R.testBit v = true) ∧ (∀ X : Nat, X.testBit s = true → clo n r X → ∀ v, R.testBit v = true → X.testBit v = true) ∧ (L = 0 ∨ l ≤ cnt n R)
/-- within layer l: R0 was reached ahead of it, R is reached now -/
def lyI (n s : Nat) (r : Nat → Nat → Nat) (R0 l R : Nat) (xcf : Nat → Int32) (cf : Nat → Nat) : Prop :=
  R < 2 ^ n ∧ (∀ v, R0.testBit v = true → R.testBit v = true ∧ ∃ k, k < l ∧ pth n r xcf cf R s k v) ∧ (∀ v, R.testBit v = true → ∃ k, k ≤ l ∧ pth n r xcf cf R s k v) ∧ (∀ X : Nat, X.testBit s = true → clo n r X → ∀ v, R.testBit v = true → X.testBit v = true) ∧ (R = R0 ∨ l + 1 ≤ cnt n R)
theorem lyI_add {n s R0 l R u v : Nat} {r : Nat → Nat → Nat} {xcf : Nat → Int32} {cf : Nat → Nat} (H : lyI n s r R0 l R xcf cf) (hu : R0.testBit u = true) (hs : R0.testBit s = true) (hun : u < n) (hv : v < n) (hR : R.testBit v = false) (hr : 0 < r u v) (hc : l ≤ cnt n R0) : lyI n s r R0 l (R ||| 2 ^ v) (upd xcf v (nI u)) (va_up cf v u) := by
  obtain ⟨h1, h2, h3, h4, h5⟩ := H
  have hvs : v ≠ s := fun q => by rw [q, (h2 s hs).1] at hR; cases hR
  obtain ⟨huR, k0, hk0, hp0⟩ := h2 u hu
  have new : ∀ x, (R ||| 2 ^ v).testBit x = true → R.testBit x = true ∨ x = v := fun x hx => by
    rw [bit_or] at hx
    cases hb : R.testBit x with
    | true => exact Or.inl rfl
    | false =>
      rw [hb] at hx
      have : v = x := by simpa using hx
      exact Or.inr this.symm
  refine ⟨or_lt h1 hv, fun x hx => ?_, fun x hx => ?_, fun X hX hcl x hx => ?_, Or.inr ?_⟩
  · obtain ⟨a1, k, a2, a3⟩ := h2 x hx
    exact ⟨by rw [bit_or, a1]; rfl, k, a2, pth_grow hR k x a1 a3⟩
  · rcases new x hx with q | q
    · obtain ⟨k, a2, a3⟩ := h3 x q
      exact ⟨k, a2, pth_grow hR k x q a3⟩
    · subst q
      exact ⟨k0 + 1, by omega, pth_new hR hvs hv huR hun hr hp0⟩
  · rcases new x hx with q | q
    · exact h4 X hX hcl x q
    · subst q
      exact hcl u x hun hv (h4 X hX hcl u huR) hr
  · rw [cnt_add hv hR]
    rcases h5 with q | q
    · subst q; omega
    · omega
/-- findPath(s, t) -/
def kX3_findPath : zK := fun as0 st0 P => ∃ xfl : Int32, ∃ xn : Int32, ∃ xcap : Nat → Nat → Int32, ∃ xfs : Nat → Int32, ∃ xss : Nat → Int32, ∃ xbs : Nat → Int32, ∃ xnx : Int32, ∃ xsz : Int32, ∃ xsd : Int32, ∃ xct : Nat → Nat → Int32, ∃ xpa : Nat → Int32, ∃ xla : Nat → Int32, ∃ xsi : Nat → Int32, ∃ xre : Nat → Nat → Int32, ∃ xcf : Nat → Int32, ∃ xfn : Int32, ∃ xrc : Int32, ∃ n : Nat, ∃ r : Nat → Nat → Nat, ∃ s : Nat, ∃ t : Nat, ∃ a : Int32, ∃ b : Int32, (nI n = xfn) ∧ (n ≤ 12) ∧ (fR n xre r) ∧ (∀ i j, r i j < 2 ^ 31) ∧ (a = nI s) ∧ (b = nI t) ∧ (s < n) ∧ (t < n) ∧ (s ≠ t) ∧ as0 = [.inr (.inl 8), .inl a, .inl b] ∧ st0 = (CW xfl xn xcap xfs xss xbs xnx xsz xsd xct xpa xla xsi xre xcf xfn xrc) ∧ ((∀ R cf', R < 2 ^ n → R.testBit s = true → R.testBit t = false → clo n r R → (∀ X : Nat, X.testBit s = true → clo n r X → ∀ v, R.testBit v = true → X.testBit v = true) → P (some (.inl 0)) (CW xfl xn xcap xfs xss xbs xnx xsz xsd xct xpa xla xsi xre (cf') xfn (nI R))) ∧ (∀ R k cf rc' cf', k < n → pth n r cf' cf R s k t → P (some (.inl 1)) (CW xfl xn xcap xfs xss xbs xnx xsz xsd xct xpa xla xsi xre (cf') xfn (rc'))))
def iX3_findPath (C0 : zK) : Prop := ∀ {xfl : Int32} {xn : Int32} {xcap : Nat → Nat → Int32} {xfs : Nat → Int32} {xss : Nat → Int32} {xbs : Nat → Int32} {xnx : Int32} {xsz : Int32} {xsd : Int32} {xct : Nat → Nat → Int32} {xpa : Nat → Int32} {xla : Nat → Int32} {xsi : Nat → Int32} {xre : Nat → Nat → Int32} {xcf : Nat → Int32} {xfn : Int32} {xrc : Int32} {n : Nat} {r : Nat → Nat → Nat} {s : Nat} {t : Nat} {a : Int32} {b : Int32} {P : zP}, (nI n = xfn) → (n ≤ 12) → (fR n xre r) → (∀ i j, r i j < 2 ^ 31) → (a = nI s) → (b = nI t) → (s < n) → (t < n) → (s ≠ t) → ((∀ R cf', R < 2 ^ n → R.testBit s = true → R.testBit t = false → clo n r R → (∀ X : Nat, X.testBit s = true → clo n r X → ∀ v, R.testBit v = true → X.testBit v = true) → P (some (.inl 0)) (CW xfl xn xcap xfs xss xbs xnx xsz xsd xct xpa xla xsi xre (cf') xfn (nI R))) ∧ (∀ R k cf rc' cf', k < n → pth n r cf' cf R s k t → P (some (.inl 1)) (CW xfl xn xcap xfs xss xbs xnx xsz xsd xct xpa xla xsi xre (cf') xfn (rc')))) → C0 [.inr (.inl 8), .inl a, .inl b] ((CW xfl xn xcap xfs xss xbs xnx xsz xsd xct xpa xla xsi xre xcf xfn xrc)) P
theorem eX3_findPath : iX3_findPath kX3_findPath := by
  intro xfl xn xcap xfs xss xbs xnx xsz xsd xct xpa xla xsi xre xcf xfn xrc n r s t a b P h0 h1 h2 h3 h4 h5 h6 h7 h8 hz
  exact ⟨xfl, xn, xcap, xfs, xss, xbs, xnx, xsz, xsd, xct, xpa, xla, xsi, xre, xcf, xfn, xrc, n, r, s, t, a, b, h0, h1, h2, h3, h4, h5, h6, h7, h8, rfl, rfl, hz⟩
theorem oX3_findPath (l : Launch) : zOK l RX3 cX3_findPath rX3_findPath (some .boolean) (tX3_findPath, fX3, gX3, [(51, 1, 101, kX4_only), (55, 2, 101, kX4_holds)], [], 2) := ⟨tX3_findPath_ok, fX3_ok, gX3_ok, List.forall_mem_cons.mpr ⟨⟨yX4_only, cX4_only, 1, (some .int), rX4_only, zX4_only l, by decide +kernel, ykX4_only, lkX3_51⟩, List.forall_mem_cons.mpr ⟨⟨yX4_holds, cX4_holds, 2, (some .boolean), rX4_holds, zX4_holds l, by decide +kernel, ykX4_holds, lkX3_55⟩, fun _ h => absurd h List.not_mem_nil⟩⟩, by decide +kernel, rfl⟩
set_option maxRecDepth 100000 in
set_option maxHeartbeats 4000000 in
theorem wX3_findPath {CX4_only : zK} (HX4_only : iX4_only CX4_only) {CX4_holds : zK} (HX4_holds : iX4_holds CX4_holds) {xfl : Int32} {xn : Int32} {xcap : Nat → Nat → Int32} {xfs : Nat → Int32} {xss : Nat → Int32} {xbs : Nat → Int32} {xnx : Int32} {xsz : Int32} {xsd : Int32} {xct : Nat → Nat → Int32} {xpa : Nat → Int32} {xla : Nat → Int32} {xsi : Nat → Int32} {xre : Nat → Nat → Int32} {xcf : Nat → Int32} {xfn : Int32} {xrc : Int32} {n : Nat} {r : Nat → Nat → Nat} {s : Nat} {t : Nat} {a : Int32} {b : Int32} {P : zP} (hfn : nI n = xfn) (hn2 : n ≤ 12) (hre : fR n xre r) (hr : ∀ i j, r i j < 2 ^ 31) (ha : a = nI s) (hb : b = nI t) (hs : s < n) (ht : t < n) (hst : s ≠ t) (hp : (∀ R cf', R < 2 ^ n → R.testBit s = true → R.testBit t = false → clo n r R → (∀ X : Nat, X.testBit s = true → clo n r X → ∀ v, R.testBit v = true → X.testBit v = true) → P (some (.inl 0)) (CW xfl xn xcap xfs xss xbs xnx xsz xsd xct xpa xla xsi xre (cf') xfn (nI R))) ∧ (∀ R k cf rc' cf', k < n → pth n r cf' cf R s k t → P (some (.inl 1)) (CW xfl xn xcap xfs xss xbs xnx xsz xsd xct xpa xla xsi xre (cf') xfn (rc')))) {Z : zH} (hZ : zcl (tX3_findPath, fX3, gX3, [(51, 1, 101, CX4_only), (55, 2, 101, CX4_holds)], [], 2) P Z) : Z ((CW xfl xn xcap xfs xss xbs xnx xsz xsd xct xpa xla xsi xre xcf xfn xrc)) 0 [some (.inr (.inl 8)), some (.inl a), some (.inl b), none, none, none, none, none] [] := by
  subst ha hb hfn
  have p12n := p12 hn2
  have exit : ∀ (l R L : Nat) (cf' : Nat → Int32) (cf : Nat → Nat), bfI n s r l R L cf' cf → l ≤ n → (R.testBit t = true ∨ l = n) → P (some (.inl (b2i (R.testBit t)))) (CW xfl xn xcap xfs xss xbs xnx xsz xsd xct xpa xla xsi xre (cf') (nI n) (nI R)) := by
    intro l R L cf' cf H hl h
    obtain ⟨h1, h2, h3, h4, h5, h6, h7, h8⟩ := H
    cases hb : R.testBit t with
    | true =>
      obtain ⟨k, hk, hpt⟩ := h5 t hb
      exact hp.2 R k cf (nI R) cf' (by omega) hpt
    | false =>
      have e : l = n := by
        rcases h with h | h
        · rw [hb] at h; cases h
        · exact h
      have hc := cnt_lt ht hb
      have hL : L = 0 := by omega
      exact hp.1 R cf' h1 h2 hb (fun u v hu hv huR hr => h6 u v hu hv huR (by rw [hL]; exact Nat.zero_testBit u) hr) h7
  have outer : ∀ l, l ≤ n → 0 < l → ∀ (R L : Nat) (cf' : Nat → Int32) (cf : Nat → Nat) (o5 o6 o7 : Option zV), bfI n s r l R L cf' cf → Z (CW xfl xn xcap xfs xss xbs xnx xsz xsd xct xpa xla xsi xre (cf') (nI n) (nI R)) 16 [some (.inr (.inl 8)), some (.inl (nI s)), some (.inl (nI t)), some (.inl (nI L)), some (.inl (nI l)), o5, o6, o7] [] := by
    refine dn (Q := fun l => 0 < l → ∀ (R L : Nat) (cf' : Nat → Int32) (cf : Nat → Nat) (o5 o6 o7 : Option zV), bfI n s r l R L cf' cf → Z (CW xfl xn xcap xfs xss xbs xnx xsz xsd xct xpa xla xsi xre (cf') (nI n) (nI R)) 16 [some (.inr (.inl 8)), some (.inl (nI s)), some (.inl (nI t)), some (.inl (nI L)), some (.inl (nI l)), o5, o6, o7] []) ?_ ?_
    · intro _ R L cf' cf o5 o6 o7 H
      have hR31 : R < 2 ^ 31 := by have := H.1; omega
      refine hZ [] 40 _ _ _ _ ?_
      refine pk_le n n (fun _ => ?_) (fun c => absurd c (by omega))
      refine HX4_holds rfl rfl hR31 (by omega) ?_
      exact And.intro (b2i01 _) (exit n R L cf' cf H (by omega) (Or.inr rfl))
    · intro l hl ih hl0 R0 L cf' cf o5 o6 o7 H
      have H0 := H
      obtain ⟨h1, h2, h3, h4, h5, h6, h7, h8⟩ := H
      have hR31 : R0 < 2 ^ 31 := by omega
      have hL31 : L < 2 ^ 31 := by omega
      have uloop : ∀ u, u ≤ n → ∀ (R : Nat) (cf' : Nat → Int32) (cf : Nat → Nat) (o7 : Option zV), lyI n s r R0 l R cf' cf → (∀ u', u' < u → L.testBit u' = true → ∀ v, v < n → 0 < r u' v → R.testBit v = true) → Z (CW xfl xn xcap xfs xss xbs xnx xsz xsd xct xpa xla xsi xre (cf') (nI n) (nI R)) 45 [some (.inr (.inl 8)), some (.inl (nI s)), some (.inl (nI t)), some (.inl (nI L)), some (.inl (nI l)), some (.inl (nI R0)), some (.inl (nI u)), o7] [] := by
        refine dn (Q := fun u => ∀ (R : Nat) (cf' : Nat → Int32) (cf : Nat → Nat) (o7 : Option zV), lyI n s r R0 l R cf' cf → (∀ u', u' < u → L.testBit u' = true → ∀ v, v < n → 0 < r u' v → R.testBit v = true) → Z (CW xfl xn xcap xfs xss xbs xnx xsz xsd xct xpa xla xsi xre (cf') (nI n) (nI R)) 45 [some (.inr (.inl 8)), some (.inl (nI s)), some (.inl (nI t)), some (.inl (nI L)), some (.inl (nI l)), some (.inl (nI R0)), some (.inl (nI u)), o7] []) ?_ ?_
        · intro R cf' cf o7 G hg
          obtain ⟨g1, g2, g3, g4, g5⟩ := G
          refine hZ [16] 40 _ _ _ _ ?_
          refine pk_le n n (fun _ => ?_) (fun c => absurd c (by omega))
          have h9 := ih (by omega) R (R &&& (R ^^^ R0)) cf' cf (some (.inl (nI R0))) (some (.inl (nI n))) o7 ⟨g1, (g2 s h2).1, Nat.lt_of_le_of_lt Nat.and_le_left g1, fun v hv => ?_, fun v hv => ?_, fun u v hu hv huR huL hruv => ?_, g4, ?_⟩
          · rw [nI_succ l, ← bI_less] at h9
            exact h9
          · rw [Nat.testBit_and] at hv
            cases hb : R.testBit v with
            | true => rfl
            | false => rw [hb] at hv; cases hv
          · obtain ⟨k, a1, a2⟩ := g3 v hv
            exact ⟨k, by omega, a2⟩
          · have hu0 : R0.testBit u = true := by
              rw [Nat.testBit_and, Nat.testBit_xor, huR] at huL
              cases hb : R0.testBit u with
              | true => rfl
              | false => rw [hb] at huL; cases huL
            cases hLu : L.testBit u with
            | true => exact hg u hu hLu v hv hruv
            | false => exact (g2 v (h6 u v hu hv hu0 hLu hruv)).1
          · rcases g5 with q | q
            · subst q; exact Or.inl (by rw [Nat.xor_self, Nat.and_zero])
            · exact Or.inr q
        · intro u hu ih2 R cf' cf o7 G hg
          have vloop : L.testBit u = true → ∀ v, v ≤ n → ∀ (R : Nat) (cf' : Nat → Int32) (cf : Nat → Nat), lyI n s r R0 l R cf' cf → (∀ u', u' < u → L.testBit u' = true → ∀ v, v < n → 0 < r u' v → R.testBit v = true) → (∀ v', v' < v → L.testBit u = true → 0 < r u v' → R.testBit v' = true) → Z (CW xfl xn xcap xfs xss xbs xnx xsz xsd xct xpa xla xsi xre (cf') (nI n) (nI R)) 69 [some (.inr (.inl 8)), some (.inl (nI s)), some (.inl (nI t)), some (.inl (nI L)), some (.inl (nI l)), some (.inl (nI R0)), some (.inl (nI u)), some (.inl (nI v))] [] := by
            intro hLu
            refine dn (Q := fun v => ∀ (R : Nat) (cf' : Nat → Int32) (cf : Nat → Nat), lyI n s r R0 l R cf' cf → (∀ u', u' < u → L.testBit u' = true → ∀ v, v < n → 0 < r u' v → R.testBit v = true) → (∀ v', v' < v → L.testBit u = true → 0 < r u v' → R.testBit v' = true) → Z (CW xfl xn xcap xfs xss xbs xnx xsz xsd xct xpa xla xsi xre (cf') (nI n) (nI R)) 69 [some (.inr (.inl 8)), some (.inl (nI s)), some (.inl (nI t)), some (.inl (nI L)), some (.inl (nI l)), some (.inl (nI R0)), some (.inl (nI u)), some (.inl (nI v))] []) ?_ ?_
            · intro R cf' cf G hg hv
              refine hZ [45] 40 _ _ _ _ ?_
              refine pk_le n n (fun _ => ?_) (fun c => absurd c (by omega))
              have h9 := ih2 R cf' cf (some (.inl (nI n))) G (fun u' hu' hLu v hvn hrr => by
                by_cases e : u' = u
                · subst e; exact hv v hvn hLu hrr
                · exact hg u' (by omega) hLu v hvn hrr)
              rw [nI_succ u] at h9
              exact h9
            · intro v hv ih3 R cf' cf G hg hgv
              have hR31' : R < 2 ^ 31 := by have := G.1; omega
              have skip : (L.testBit u = true → 0 < r u v → R.testBit v = true) → Z (CW xfl xn xcap xfs xss xbs xnx xsz xsd xct xpa xla xsi xre (cf') (nI n) (nI R)) 69 [some (.inr (.inl 8)), some (.inl (nI s)), some (.inl (nI t)), some (.inl (nI L)), some (.inl (nI l)), some (.inl (nI R0)), some (.inl (nI u)), some (.inl (nI v + 1))] [] := by
                intro h
                have h9 := ih3 R cf' cf G hg (fun v' hv' hLu hr' => by
                  by_cases e : v' = v
                  · subst e; exact h hLu hr'
                  · exact hgv v' (by omega) hLu hr')
                rw [nI_succ v] at h9
                exact h9
              refine hZ [69] 90 _ _ _ _ ?_
              refine pk_le n v (fun c => absurd c (by omega)) (fun _ => ?_)
              refine And.intro (in12 (by omega)) ?_
              rw [cl12 (by omega)]
              refine And.intro ⟨by omega, in12 (by omega)⟩ ?_
              rw [cl12 (by omega), hre _ _ hu hv]
              have hrr := hr u v
              refine pk_le (r u v) 0 (fun c => ?_) (fun c => ?_)
              · exact skip (fun _ q => absurd q (by omega))
              · refine HX4_holds rfl rfl hR31' (by omega) ?_
                refine bn (fun hb => ?_) (fun hb => ?_)
                · exact skip (fun _ _ => hb)
                · have hcnt : l ≤ cnt n R0 := by
                    rcases h8 with q | q
                    · rw [q, Nat.zero_testBit] at hLu; cases hLu
                    · exact q
                  refine HX4_only rfl (by omega) ?_
                  refine And.intro (in12 (by omega)) ?_
                  rw [cl12 (by omega), bI_or]
                  have h9 := ih3 _ _ _ (lyI_add G (h4 u hLu) h2 hu hv hb c hcnt) (fun u' hu' hLu' x hx hrx => by rw [bit_or, hg u' hu' hLu' x hx hrx]; rfl) (fun x hx hLu' hrx => by
                    rw [bit_or]
                    by_cases e : x = v
                    · subst e; simp
                    · rw [hgv x (by omega) hLu' hrx]; rfl)
                  rw [nI_succ v] at h9
                  exact h9
          refine hZ [45, 69] 60 _ _ _ _ ?_
          refine pk_le n u (fun c => absurd c (by omega)) (fun _ => ?_)
          refine HX4_holds rfl rfl hL31 (by omega) ?_
          refine bn (fun hLu => ?_) (fun hb => ?_)
          · exact vloop hLu 0 (by omega) R cf' cf G hg (fun v' hv' => absurd hv' (by omega))
          · have h9 := ih2 R cf' cf o7 G (fun u' hu' hLu v hvn hrr => by
              by_cases e : u' = u
              · subst e; rw [hb] at hLu; cases hLu
              · exact hg u' (by omega) hLu v hvn hrr)
            rw [nI_succ u] at h9
            exact h9
      refine hZ [45] 60 _ _ _ _ ?_
      refine pk_le n l (fun c => absurd c (by omega)) (fun _ => ?_)
      refine HX4_holds rfl rfl hR31 (by omega) ?_
      refine bn (fun hb => ?_) (fun hb => ?_)
      · refine HX4_holds rfl rfl hR31 (by omega) ?_
        exact And.intro (b2i01 _) (exit l R0 L cf' cf H0 (by omega) (Or.inl hb))
      · exact uloop 0 (by omega) R0 cf' cf o7 ⟨h1, fun v hv => ⟨hv, h5 v hv⟩, fun v hv => (by
          obtain ⟨k, a1, a2⟩ := h5 v hv
          exact ⟨k, by omega, a2⟩), h7, Or.inl rfl⟩ (fun u' hu' => absurd hu' (by omega))
  refine hZ [16] 40 _ _ _ _ ?_
  refine HX4_only rfl (by omega) ?_
  have hp2 : 2 ^ s < 2 ^ n := Nat.pow_lt_pow_right (by decide) hs
  refine outer 1 (by omega) (by omega) (2 ^ s) (2 ^ s) xcf (fun _ => 0) none none none ⟨hp2, by rw [Nat.testBit_two_pow]; simp, hp2, fun v hv => hv, fun v hv => ⟨0, by omega, ?_⟩, fun u v _ _ a1 a2 => ?_, fun X hX _ v hv => ?_, Or.inr ?_⟩
  · rw [Nat.testBit_two_pow] at hv
    have : s = v := by simpa using hv
    exact this.symm
  · rw [a1] at a2; cases a2
  · rw [Nat.testBit_two_pow] at hv
    have : s = v := by simpa using hv
    subst this
    exact hX
  · have h1 := cnt_add (S := 0) hs (by simp)
    rw [Nat.zero_or] at h1
    omega
theorem zX3_findPath (l : Launch) : zMet l yX3_findPath cX3_findPath 8 (some .boolean) rX3_findPath kX3_findPath := zMet_of (by decide) ⟨rfl, rfl⟩ (oX3_findPath l) (fun as0 st0 P h => by
  obtain ⟨xfl, xn, xcap, xfs, xss, xbs, xnx, xsz, xsd, xct, xpa, xla, xsi, xre, xcf, xfn, xrc, n, r, s, t, a, b, h0, h1, h2, h3, h4, h5, h6, h7, h8, rfl, rfl, hz⟩ := h
  exact ⟨Nat.le_of_ble_eq_true rfl, fun Z hZ => wX3_findPath eX4_only eX4_holds h0 h1 h2 h3 h4 h5 h6 h7 h8 hz hZ⟩)

