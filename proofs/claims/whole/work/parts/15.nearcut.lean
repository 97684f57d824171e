/-! nearCut: the whole flow. -/
theorem wt_single {n s : Nat} {K : Nat → Nat → Nat} (h : ∀ i j, K i j ≤ 999) (hn : n ≤ 12) (hs : s < n) : wt n K (2 ^ s) ≤ 10989 := by
  have e1 : wt n K (2 ^ s) = sm (fun v => wa K (2 ^ s) s v) n := by
    have h1 := sm_up (fun u => sm (fun v => wa K (2 ^ s) u v) n) s 0 n hs
    have h2 : sm (fun i => if i = s then 0 else sm (fun v => wa K (2 ^ s) i v) n) n = 0 := sm_zero (fun i _ => by
      split
      · rfl
      · rename_i e
        exact sm_zero (fun v _ => by simp [wa, Nat.testBit_two_pow, Ne.symm e]))
    unfold wt
    omega
  have e2 := sm_up (fun v => wa K (2 ^ s) s v) s 999 n hs
  have e3 : wa K (2 ^ s) s s = 0 := by simp [wa]
  have e4 : sm (fun i => if i = s then 999 else wa K (2 ^ s) s i) n ≤ n * 999 := sm_bound (fun i _ => by
    split
    · omega
    · exact wa_le h _ _ _)
  rw [e1]
  omega
/-- nearCut(graph, s, t): the near cut -/
def kX3_nearCut : zK := fun as0 st0 P => ∃ xfl : Int32, ∃ xn : Int32, ∃ xcap : Nat → Nat → Int32, ∃ xfs : Nat → Int32, ∃ xss : Nat → Int32, ∃ xbs : Nat → Int32, ∃ xnx : Int32, ∃ xsz : Int32, ∃ xsd : Int32, ∃ xct : Nat → Nat → Int32, ∃ xpa : Nat → Int32, ∃ xla : Nat → Int32, ∃ xsi : Nat → Int32, ∃ xre : Nat → Nat → Int32, ∃ xcf : Nat → Int32, ∃ xfn : Int32, ∃ xrc : Int32, ∃ n : Nat, ∃ K : Nat → Nat → Nat, ∃ s : Nat, ∃ t : Nat, ∃ a : Int32, ∃ b : Int32, (cG xn xcap n K) ∧ (a = nI s) ∧ (b = nI t) ∧ (s < n) ∧ (t < n) ∧ (s ≠ t) ∧ as0 = [.inr (.inl 8), .inr (.inl 1), .inl a, .inl b] ∧ st0 = (CW xfl xn xcap xfs xss xbs xnx xsz xsd xct xpa xla xsi xre xcf xfn xrc) ∧ (∀ X re' cf' fn' rc', isNear n K s t X → P (some (.inl (nI X))) (CW xfl xn xcap xfs xss xbs xnx xsz xsd xct xpa xla xsi (re') (cf') (fn') (rc')))
def iX3_nearCut (C0 : zK) : Prop := ∀ {xfl : Int32} {xn : Int32} {xcap : Nat → Nat → Int32} {xfs : Nat → Int32} {xss : Nat → Int32} {xbs : Nat → Int32} {xnx : Int32} {xsz : Int32} {xsd : Int32} {xct : Nat → Nat → Int32} {xpa : Nat → Int32} {xla : Nat → Int32} {xsi : Nat → Int32} {xre : Nat → Nat → Int32} {xcf : Nat → Int32} {xfn : Int32} {xrc : Int32} {n : Nat} {K : Nat → Nat → Nat} {s : Nat} {t : Nat} {a : Int32} {b : Int32} {P : zP}, (cG xn xcap n K) → (a = nI s) → (b = nI t) → (s < n) → (t < n) → (s ≠ t) → (∀ X re' cf' fn' rc', isNear n K s t X → P (some (.inl (nI X))) (CW xfl xn xcap xfs xss xbs xnx xsz xsd xct xpa xla xsi (re') (cf') (fn') (rc'))) → C0 [.inr (.inl 8), .inr (.inl 1), .inl a, .inl b] ((CW xfl xn xcap xfs xss xbs xnx xsz xsd xct xpa xla xsi xre xcf xfn xrc)) P
theorem eX3_nearCut : iX3_nearCut kX3_nearCut := by
  intro xfl xn xcap xfs xss xbs xnx xsz xsd xct xpa xla xsi xre xcf xfn xrc n K s t a b P h0 h1 h2 h3 h4 h5 hz
  exact ⟨xfl, xn, xcap, xfs, xss, xbs, xnx, xsz, xsd, xct, xpa, xla, xsi, xre, xcf, xfn, xrc, n, K, s, t, a, b, h0, h1, h2, h3, h4, h5, rfl, rfl, hz⟩
theorem oX3_nearCut (l : Launch) : zOK l RX3 cX3_nearCut rX3_nearCut (some .int) (tX3_nearCut, fX3, gX3, [(36, 2, 3, kX3_findPath), (40, 2, 3, kX3_narrowest), (44, 3, 3, kX3_sendAlong)], [(30, 0)], 1) := ⟨tX3_nearCut_ok, fX3_ok, gX3_ok, List.forall_mem_cons.mpr ⟨⟨yX3_findPath, cX3_findPath, 8, (some .boolean), rX3_findPath, zX3_findPath l, by decide +kernel, ykX3_findPath, lkX3_36⟩, List.forall_mem_cons.mpr ⟨⟨yX3_narrowest, cX3_narrowest, 7, (some .int), rX3_narrowest, zX3_narrowest l, by decide +kernel, ykX3_narrowest, lkX3_40⟩, List.forall_mem_cons.mpr ⟨⟨yX3_sendAlong, cX3_sendAlong, 7, none, rX3_sendAlong, zX3_sendAlong l, by decide +kernel, ykX3_sendAlong, lkX3_44⟩, fun _ h => absurd h List.not_mem_nil⟩⟩⟩, by decide +kernel, rfl⟩
set_option maxRecDepth 100000 in
set_option maxHeartbeats 4000000 in
theorem wX3_nearCut {CX3_findPath : zK} (HX3_findPath : iX3_findPath CX3_findPath) {CX3_narrowest : zK} (HX3_narrowest : iX3_narrowest CX3_narrowest) {CX3_sendAlong : zK} (HX3_sendAlong : iX3_sendAlong CX3_sendAlong) {xfl : Int32} {xn : Int32} {xcap : Nat → Nat → Int32} {xfs : Nat → Int32} {xss : Nat → Int32} {xbs : Nat → Int32} {xnx : Int32} {xsz : Int32} {xsd : Int32} {xct : Nat → Nat → Int32} {xpa : Nat → Int32} {xla : Nat → Int32} {xsi : Nat → Int32} {xre : Nat → Nat → Int32} {xcf : Nat → Int32} {xfn : Int32} {xrc : Int32} {n : Nat} {K : Nat → Nat → Nat} {s : Nat} {t : Nat} {a : Int32} {b : Int32} {P : zP} (hG : cG xn xcap n K) (ha : a = nI s) (hb : b = nI t) (hs : s < n) (ht : t < n) (hst : s ≠ t) (hp : ∀ X re' cf' fn' rc', isNear n K s t X → P (some (.inl (nI X))) (CW xfl xn xcap xfs xss xbs xnx xsz xsd xct xpa xla xsi (re') (cf') (fn') (rc'))) {Z : zH} (hZ : zcl (tX3_nearCut, fX3, gX3, [(36, 2, 3, CX3_findPath), (40, 2, 3, CX3_narrowest), (44, 3, 3, CX3_sendAlong)], [(30, 0)], 1) P Z) : Z ((CW xfl xn xcap xfs xss xbs xnx xsz xsd xct xpa xla xsi xre xcf xfn xrc)) 0 [some (.inr (.inl 8)), some (.inr (.inl 1)), some (.inl a), some (.inl b), none] [] := by
  subst ha hb
  obtain ⟨rfl, hn1, hn2, hcap, hK⟩ := hG
  have paths : ∀ (c F q : Nat) (r : Nat → Nat → Nat) (re' : Nat → Nat → Int32) (cf' : Nat → Int32) (rc' : Int32), 10989 < F + c → q ≤ F → fR n re' r → (∀ i j, r i j + r j i = K i j + K j i) → (∀ X : Nat, X.testBit s = true → X.testBit t = false → wt n r X + F = wt n K X) → Z (CW xfl (nI n) xcap xfs xss xbs xnx xsz xsd xct xpa xla xsi (re') (cf') (nI n) (rc')) 50 [some (.inr (.inl 8)), some (.inr (.inl 1)), some (.inl (nI s)), some (.inl (nI t)), some (.inl (nI q))] [] := by
    intro c
    induction c with
    | zero =>
      intro F q r re' cf' rc' hF hq hre hpair hJ
      have h1 := hJ (2 ^ s) (by rw [Nat.testBit_two_pow]; simp) (by rw [Nat.testBit_two_pow]; simpa using hst)
      have h2 := wt_single hK.1 hn2 hs
      omega
    | succ c ih =>
      intro F q r re' cf' rc' hF hq hre hpair hJ
      have h1 := hJ (2 ^ s) (by rw [Nat.testBit_two_pow]; simp) (by rw [Nat.testBit_two_pow]; simpa using hst)
      have h2 := wt_single hK.1 hn2 hs
      have hr31 : ∀ i j, r i j < 2 ^ 31 := fun i j => by
        have a1 := hpair i j
        have a2 := hK.1 i j
        have a3 := hK.1 j i
        omega
      refine hZ [50] 60 _ _ _ _ ?_
      refine pk_lt 10989 q (fun c => absurd c (by omega)) (fun _ => ?_)
      refine HX3_findPath rfl hn2 hre hr31 rfl rfl hs ht hst ⟨fun R cf2 g1 g2 g3 g4 g5 => ?_, fun R k cf rc2 cf2 g1 g2 => ?_⟩
      · refine And.intro (fun _ => ?_) (fun c => absurd rfl c)
        exact hp R re' cf2 (nI n) (nI R) (flow_near g1 g2 g3 g4 g5 hJ)
      · refine And.intro (fun c => absurd c (by decide)) (fun _ => ?_)
        refine HX3_narrowest rfl hn2 hre hr31 rfl rfl hs g1 g2 ht ?_
        refine HX3_sendAlong rfl hn2 hre rfl rfl rfl hs g1 g2 ht (mn_ple k t 143856) (fun re3 r3 f1 f2 f3 => ?_)
        have hd := mn_pos k t 143856 (by omega) g2
        have h9 := ih (F + mn r cf k t 143856) (q + 1) r3 re3 cf2 rc2 (by omega) (by omega) f1 (fun i j => by rw [f3, hpair]) (fun X hX1 hX2 => by
          have a1 := f2 X hX2
          have a2 := hJ X hX1 hX2
          rw [hX1, if_pos rfl] at a1
          omega)
        rw [nI_succ] at h9
        exact h9
  have copy : ∀ u, u ≤ n → ∀ (re' : Nat → Nat → Int32), (∀ i j, i < u → j < n → re' i j = nI (K i j)) → Z (CW xfl (nI n) xcap xfs xss xbs xnx xsz xsd xct xpa xla xsi (re') xcf (nI n) xrc) 11 [some (.inr (.inl 8)), some (.inr (.inl 1)), some (.inl (nI s)), some (.inl (nI t)), some (.inl (nI u))] [] := by
    refine dn (Q := fun u => ∀ (re' : Nat → Nat → Int32), (∀ i j, i < u → j < n → re' i j = nI (K i j)) → Z (CW xfl (nI n) xcap xfs xss xbs xnx xsz xsd xct xpa xla xsi (re') xcf (nI n) xrc) 11 [some (.inr (.inl 8)), some (.inr (.inl 1)), some (.inl (nI s)), some (.inl (nI t)), some (.inl (nI u))] []) ?_ ?_
    · intro re' hre
      refine hZ [50] 40 _ _ _ _ ?_
      refine pk_le n n (fun _ => ?_) (fun c => absurd c (by omega))
      exact paths 10990 0 0 K re' xcf xrc (by omega) (by omega) hre (fun _ _ => rfl) (fun _ _ _ => rfl)
    · intro u hu ih re' hre
      refine hZ [11] 40 _ _ _ _ ?_
      refine pk_le n u (fun c => absurd c (by omega)) (fun _ => ?_)
      refine And.intro (in12 (by omega)) ?_
      rw [cl12 (by omega)]
      refine And.intro (in12 (by omega)) ?_
      rw [cl12 (by omega)]
      refine And.intro ⟨by omega, by omega, rfl, rfl, rfl⟩ ?_
      have h9 := ih (zup re' u (va_cpy (xcap u) (re' u) 0 0 12)) (fun i j hi hj => by
        by_cases e : i = u
        · subst e
          rw [zup_at, pk_cpy_in (by omega) (by omega), Nat.zero_add, Nat.sub_zero]
          exact hcap i j (by omega) (by omega)
        · rw [show zup re' u (va_cpy (xcap u) (re' u) 0 0 12) i = re' i by simp [zup, e]]
          exact hre i j (by omega) hj)
      rw [nI_succ] at h9
      exact h9
  refine hZ [11] 40 _ _ _ _ ?_
  exact copy 0 (by omega) xre (fun i j hi _ => absurd hi (by omega))
theorem zX3_nearCut (l : Launch) : zMet l yX3_nearCut cX3_nearCut 5 (some .int) rX3_nearCut kX3_nearCut := zMet_of (by decide) ⟨rfl, rfl⟩ (oX3_nearCut l) (fun as0 st0 P h => by
  obtain ⟨xfl, xn, xcap, xfs, xss, xbs, xnx, xsz, xsd, xct, xpa, xla, xsi, xre, xcf, xfn, xrc, n, K, s, t, a, b, h0, h1, h2, h3, h4, h5, rfl, rfl, hz⟩ := h
  exact ⟨Nat.le_of_ble_eq_true rfl, fun Z hZ => wX3_nearCut eX3_findPath eX3_narrowest eX3_sendAlong h0 h1 h2 h3 h4 h5 hz hZ⟩)

