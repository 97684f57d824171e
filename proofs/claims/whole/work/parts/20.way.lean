/-! CutTree: the questions. -/
theorem cT_some {n : Nat} {xsd : Int32} {xct : Nat → Nat → Int32} {xpa xla xsi : Nat → Int32} {B : Nat → Nat → Nat} (h : cT n xsd xct xpa xla xsi (some B)) : (1 : Int32) = xsd ∧ gK n B ∧ (∀ i j, i < n → j < 12 → xct i j = nI (B i j)) ∧ cA n xpa (tp n B) ∧ cA n xla (tl n B) ∧ ∀ k, k < n → xsi k = nI (sd n (tp n B) k) := by
  rcases h with ⟨h, -⟩ | ⟨B', h, h2⟩
  · cases h
  · cases h; exact h2
/-- Integer.bitCount(S), S a set of at most 12 nodes -/
def kJ6_bitCount_0f7a4 : zK := fun as0 st0 P => ∃ S : Nat, ∃ a : Int32, ∃ σ : zS, (a = nI S) ∧ (S < 4096) ∧ as0 = [.inl a] ∧ st0 = σ ∧ (P (some (.inl (nI (cnt 12 S)))) σ)
def iJ6_bitCount_0f7a4 (C0 : zK) : Prop := ∀ {S : Nat} {a : Int32} {σ : zS} {P : zP}, (a = nI S) → (S < 4096) → (P (some (.inl (nI (cnt 12 S)))) σ) → C0 [.inl a] (σ) P
theorem eJ6_bitCount_0f7a4 : iJ6_bitCount_0f7a4 kJ6_bitCount_0f7a4 := by
  intro S a σ P h0 h1 hz
  exact ⟨S, a, σ, h0, h1, rfl, rfl, hz⟩
theorem oJ6_bitCount_0f7a4 (l : Launch) : zOK l RJ6 cJ6_bitCount_0f7a4 rJ6_bitCount_0f7a4 (some .int) (tJ6_bitCount_0f7a4, fJ6, gJ6, [], [], 1) := ⟨tJ6_bitCount_0f7a4_ok, fJ6_ok, gJ6_ok, fun _ h => absurd h List.not_mem_nil, by decide +kernel, rfl⟩
set_option maxRecDepth 100000 in
set_option maxHeartbeats 4000000 in
theorem wJ6_bitCount_0f7a4 {S : Nat} {a : Int32} {σ : zS} {P : zP} (ha : a = nI S) (hS : S < 4096) (hp : P (some (.inl (nI (cnt 12 S)))) σ) {Z : zH} (hZ : zcl (tJ6_bitCount_0f7a4, fJ6, gJ6, [], [], 1) P Z) : Z (σ) 0 [some (.inl a)] [] := by
  rw [← bc_spec hS, ← ha] at hp
  exact hZ [] 60 _ _ _ _ hp
theorem zJ6_bitCount_0f7a4 (l : Launch) : zMet l yJ6_bitCount_0f7a4 cJ6_bitCount_0f7a4 1 (some .int) rJ6_bitCount_0f7a4 kJ6_bitCount_0f7a4 := zMet_of (by decide) ⟨rfl, rfl⟩ (oJ6_bitCount_0f7a4 l) (fun as0 st0 P h => by
  obtain ⟨S, a, σ, h0, h1, rfl, rfl, hz⟩ := h
  exact ⟨Nat.le_of_ble_eq_true rfl, fun Z hZ => wJ6_bitCount_0f7a4 h0 h1 hz hZ⟩)

/-- placeOnWay(k, s) -/
def kX1_placeOnWay : zK := fun as0 st0 P => ∃ xfl : Int32, ∃ xn : Int32, ∃ xcap : Nat → Nat → Int32, ∃ xfs : Nat → Int32, ∃ xss : Nat → Int32, ∃ xbs : Nat → Int32, ∃ xnx : Int32, ∃ xsz : Int32, ∃ xsd : Int32, ∃ xct : Nat → Nat → Int32, ∃ xpa : Nat → Int32, ∃ xla : Nat → Int32, ∃ xsi : Nat → Int32, ∃ xre : Nat → Nat → Int32, ∃ xcf : Nat → Int32, ∃ xfn : Int32, ∃ xrc : Int32, ∃ n : Nat, ∃ B : Nat → Nat → Nat, ∃ k : Nat, ∃ s : Nat, ∃ a : Int32, ∃ b : Int32, (n ≤ 12) ∧ (cT n xsd xct xpa xla xsi (some B)) ∧ (a = nI k) ∧ (b = nI s) ∧ (k < n) ∧ (s < n) ∧ as0 = [.inr (.inl 7), .inl a, .inl b] ∧ st0 = (CW xfl xn xcap xfs xss xbs xnx xsz xsd xct xpa xla xsi xre xcf xfn xrc) ∧ (P (some (.inl (nI (plc n (tp n B) s k)))) (CW xfl xn xcap xfs xss xbs xnx xsz xsd xct xpa xla xsi xre xcf xfn xrc))
def iX1_placeOnWay (C0 : zK) : Prop := ∀ {xfl : Int32} {xn : Int32} {xcap : Nat → Nat → Int32} {xfs : Nat → Int32} {xss : Nat → Int32} {xbs : Nat → Int32} {xnx : Int32} {xsz : Int32} {xsd : Int32} {xct : Nat → Nat → Int32} {xpa : Nat → Int32} {xla : Nat → Int32} {xsi : Nat → Int32} {xre : Nat → Nat → Int32} {xcf : Nat → Int32} {xfn : Int32} {xrc : Int32} {n : Nat} {B : Nat → Nat → Nat} {k : Nat} {s : Nat} {a : Int32} {b : Int32} {P : zP}, (n ≤ 12) → (cT n xsd xct xpa xla xsi (some B)) → (a = nI k) → (b = nI s) → (k < n) → (s < n) → (P (some (.inl (nI (plc n (tp n B) s k)))) (CW xfl xn xcap xfs xss xbs xnx xsz xsd xct xpa xla xsi xre xcf xfn xrc)) → C0 [.inr (.inl 7), .inl a, .inl b] ((CW xfl xn xcap xfs xss xbs xnx xsz xsd xct xpa xla xsi xre xcf xfn xrc)) P
theorem eX1_placeOnWay : iX1_placeOnWay kX1_placeOnWay := by
  intro xfl xn xcap xfs xss xbs xnx xsz xsd xct xpa xla xsi xre xcf xfn xrc n B k s a b P h0 h1 h2 h3 h4 h5 hz
  exact ⟨xfl, xn, xcap, xfs, xss, xbs, xnx, xsz, xsd, xct, xpa, xla, xsi, xre, xcf, xfn, xrc, n, B, k, s, a, b, h0, h1, h2, h3, h4, h5, rfl, rfl, hz⟩
theorem oX1_placeOnWay (l : Launch) : zOK l RX1 cX1_placeOnWay rX1_placeOnWay (some .int) (tX1_placeOnWay, fX1, gX1, [(118, 1, 100, kJ6_bitCount_0f7a4), (77, 2, 101, kX4_holds)], [], 1) := ⟨tX1_placeOnWay_ok, fX1_ok, gX1_ok, List.forall_mem_cons.mpr ⟨⟨yJ6_bitCount_0f7a4, cJ6_bitCount_0f7a4, 1, (some .int), rJ6_bitCount_0f7a4, zJ6_bitCount_0f7a4 l, by decide +kernel, ykJ6_bitCount_0f7a4, lkX1_118⟩, List.forall_mem_cons.mpr ⟨⟨yX4_holds, cX4_holds, 2, (some .boolean), rX4_holds, zX4_holds l, by decide +kernel, ykX4_holds, lkX1_77⟩, fun _ h => absurd h List.not_mem_nil⟩⟩, by decide +kernel, rfl⟩
set_option maxRecDepth 100000 in
set_option maxHeartbeats 4000000 in
theorem wX1_placeOnWay {CJ6_bitCount_0f7a4 : zK} (HJ6_bitCount_0f7a4 : iJ6_bitCount_0f7a4 CJ6_bitCount_0f7a4) {CX4_holds : zK} (HX4_holds : iX4_holds CX4_holds) {xfl : Int32} {xn : Int32} {xcap : Nat → Nat → Int32} {xfs : Nat → Int32} {xss : Nat → Int32} {xbs : Nat → Int32} {xnx : Int32} {xsz : Int32} {xsd : Int32} {xct : Nat → Nat → Int32} {xpa : Nat → Int32} {xla : Nat → Int32} {xsi : Nat → Int32} {xre : Nat → Nat → Int32} {xcf : Nat → Int32} {xfn : Int32} {xrc : Int32} {n : Nat} {B : Nat → Nat → Nat} {k : Nat} {s : Nat} {a : Int32} {b : Int32} {P : zP} (hn2 : n ≤ 12) (hT : cT n xsd xct xpa xla xsi (some B)) (ha : a = nI k) (hb : b = nI s) (hk : k < n) (hs : s < n) (hp : P (some (.inl (nI (plc n (tp n B) s k)))) (CW xfl xn xcap xfs xss xbs xnx xsz xsd xct xpa xla xsi xre xcf xfn xrc)) {Z : zH} (hZ : zcl (tX1_placeOnWay, fX1, gX1, [(118, 1, 100, CJ6_bitCount_0f7a4), (77, 2, 101, CX4_holds)], [], 1) P Z) : Z ((CW xfl xn xcap xfs xss xbs xnx xsz xsd xct xpa xla xsi xre xcf xfn xrc)) 0 [some (.inr (.inl 7)), some (.inl a), some (.inl b), none] [] := by
  subst ha hb
  obtain ⟨-, -, -, -, -, hsi⟩ := cT_some hT
  have p12n := p12 hn2
  have hlt := sd_lt n (tp n B) k
  have hc := cnt_le 12 (sd n (tp n B) k)
  refine hZ [] 40 _ _ _ _ ?_
  refine And.intro (in12 (by omega)) ?_
  rw [cl12 (by omega), hsi k hk]
  refine HJ6_bitCount_0f7a4 rfl (by omega) ?_
  refine And.intro (in12 (by omega)) ?_
  rw [cl12 (by omega), hsi k hk]
  refine HX4_holds rfl rfl (by omega) (by omega) ?_
  refine bz (fun hb => ?_) (fun hb => ?_)
  · rw [plc, if_neg (by rw [hb]; decide), ← pk_sub (by omega)] at hp
    exact hp
  · rw [plc, if_pos hb] at hp
    exact hp
theorem zX1_placeOnWay (l : Launch) : zMet l yX1_placeOnWay cX1_placeOnWay 4 (some .int) rX1_placeOnWay kX1_placeOnWay := zMet_of (by decide) ⟨rfl, rfl⟩ (oX1_placeOnWay l) (fun as0 st0 P h => by
  obtain ⟨xfl, xn, xcap, xfs, xss, xbs, xnx, xsz, xsd, xct, xpa, xla, xsi, xre, xcf, xfn, xrc, n, B, k, s, a, b, h0, h1, h2, h3, h4, h5, rfl, rfl, hz⟩ := h
  exact ⟨Nat.le_of_ble_eq_true rfl, fun Z hZ => wX1_placeOnWay eJ6_bitCount_0f7a4 eX4_holds h0 h1 h2 h3 h4 h5 hz hZ⟩)

/-- how the component holds a least value that may be wanting -/
def cI (o : Option Nat) : Int32 := match o with
  | none => 143856
  | some a => nI a
theorem cI_min {o : Option Nat} {a : Nat} (ha : a ≤ 143856) (ho : ∀ b, o = some b → b < 2 ^ 31) : imin (cI o) (nI a) = cI (omin o (some a)) := by
  cases o with
  | none =>
    have e : (143856 : Int32) = nI 143856 := rfl
    show imin 143856 (nI a) = nI a
    rw [e, imin]
    by_cases h : a < 143856
    · rw [if_pos (nI_lt h (by omega))]
    · rw [if_neg (nI_nlt (by omega) (by omega)), show a = 143856 by omega]
  | some b =>
    have hb := ho b rfl
    show imin (nI b) (nI a) = nI (if a < b then a else b)
    unfold imin
    by_cases h : a < b
    · rw [if_pos h, if_pos (nI_lt h hb)]
    · rw [if_neg h, if_neg (nI_nlt (by omega) (by omega))]
/-- leastLabel(s, t) -/
def kX1_leastLabel : zK := fun as0 st0 P => ∃ xfl : Int32, ∃ xn : Int32, ∃ xcap : Nat → Nat → Int32, ∃ xfs : Nat → Int32, ∃ xss : Nat → Int32, ∃ xbs : Nat → Int32, ∃ xnx : Int32, ∃ xsz : Int32, ∃ xsd : Int32, ∃ xct : Nat → Nat → Int32, ∃ xpa : Nat → Int32, ∃ xla : Nat → Int32, ∃ xsi : Nat → Int32, ∃ xre : Nat → Nat → Int32, ∃ xcf : Nat → Int32, ∃ xfn : Int32, ∃ xrc : Int32, ∃ n : Nat, ∃ B : Nat → Nat → Nat, ∃ s : Nat, ∃ t : Nat, ∃ a : Int32, ∃ b : Int32, (nI n = xn) ∧ (n ≤ 12) ∧ (cT n xsd xct xpa xla xsi (some B)) ∧ (a = nI s) ∧ (b = nI t) ∧ (s < n) ∧ (t < n) ∧ (s ≠ t) ∧ as0 = [.inr (.inl 7), .inl a, .inl b] ∧ st0 = (CW xfl xn xcap xfs xss xbs xnx xsz xsd xct xpa xla xsi xre xcf xfn xrc) ∧ (P (some (.inl (nI (lm n (tp n B) (tl n B) s t)))) (CW xfl xn xcap xfs xss xbs xnx xsz xsd xct xpa xla xsi xre xcf xfn xrc))
def iX1_leastLabel (C0 : zK) : Prop := ∀ {xfl : Int32} {xn : Int32} {xcap : Nat → Nat → Int32} {xfs : Nat → Int32} {xss : Nat → Int32} {xbs : Nat → Int32} {xnx : Int32} {xsz : Int32} {xsd : Int32} {xct : Nat → Nat → Int32} {xpa : Nat → Int32} {xla : Nat → Int32} {xsi : Nat → Int32} {xre : Nat → Nat → Int32} {xcf : Nat → Int32} {xfn : Int32} {xrc : Int32} {n : Nat} {B : Nat → Nat → Nat} {s : Nat} {t : Nat} {a : Int32} {b : Int32} {P : zP}, (nI n = xn) → (n ≤ 12) → (cT n xsd xct xpa xla xsi (some B)) → (a = nI s) → (b = nI t) → (s < n) → (t < n) → (s ≠ t) → (P (some (.inl (nI (lm n (tp n B) (tl n B) s t)))) (CW xfl xn xcap xfs xss xbs xnx xsz xsd xct xpa xla xsi xre xcf xfn xrc)) → C0 [.inr (.inl 7), .inl a, .inl b] ((CW xfl xn xcap xfs xss xbs xnx xsz xsd xct xpa xla xsi xre xcf xfn xrc)) P
theorem eX1_leastLabel : iX1_leastLabel kX1_leastLabel := by
  intro xfl xn xcap xfs xss xbs xnx xsz xsd xct xpa xla xsi xre xcf xfn xrc n B s t a b P h0 h1 h2 h3 h4 h5 h6 h7 hz
  exact ⟨xfl, xn, xcap, xfs, xss, xbs, xnx, xsz, xsd, xct, xpa, xla, xsi, xre, xcf, xfn, xrc, n, B, s, t, a, b, h0, h1, h2, h3, h4, h5, h6, h7, rfl, rfl, hz⟩
theorem oX1_leastLabel (l : Launch) : zOK l RX1 cX1_leastLabel rX1_leastLabel (some .int) (tX1_leastLabel, fX1, gX1, [(108, 3, 101, kX4_separates)], [(112, 2)], 1) := ⟨tX1_leastLabel_ok, fX1_ok, gX1_ok, List.forall_mem_cons.mpr ⟨⟨yX4_separates, cX4_separates, 3, (some .boolean), rX4_separates, zX4_separates l, by decide +kernel, ykX4_separates, lkX1_108⟩, fun _ h => absurd h List.not_mem_nil⟩, by decide +kernel, rfl⟩
set_option maxRecDepth 100000 in
set_option maxHeartbeats 4000000 in
theorem wX1_leastLabel {CX4_separates : zK} (HX4_separates : iX4_separates CX4_separates) {xfl : Int32} {xn : Int32} {xcap : Nat → Nat → Int32} {xfs : Nat → Int32} {xss : Nat → Int32} {xbs : Nat → Int32} {xnx : Int32} {xsz : Int32} {xsd : Int32} {xct : Nat → Nat → Int32} {xpa : Nat → Int32} {xla : Nat → Int32} {xsi : Nat → Int32} {xre : Nat → Nat → Int32} {xcf : Nat → Int32} {xfn : Int32} {xrc : Int32} {n : Nat} {B : Nat → Nat → Nat} {s : Nat} {t : Nat} {a : Int32} {b : Int32} {P : zP} (hn : nI n = xn) (hn2 : n ≤ 12) (hT : cT n xsd xct xpa xla xsi (some B)) (ha : a = nI s) (hb : b = nI t) (hs : s < n) (ht : t < n) (hst : s ≠ t) (hp : P (some (.inl (nI (lm n (tp n B) (tl n B) s t)))) (CW xfl xn xcap xfs xss xbs xnx xsz xsd xct xpa xla xsi xre xcf xfn xrc)) {Z : zH} (hZ : zcl (tX1_leastLabel, fX1, gX1, [(108, 3, 101, CX4_separates)], [(112, 2)], 1) P Z) : Z ((CW xfl xn xcap xfs xss xbs xnx xsz xsd xct xpa xla xsi xre xcf xfn xrc)) 0 [some (.inr (.inl 7)), some (.inl a), some (.inl b), none, none] [] := by
  subst ha hb hn
  obtain ⟨-, hB, -, -, hla, hsi⟩ := cT_some hT
  have p12n := p12 hn2
  have hTI := tp_tI B (by omega : 0 < n)
  have bnd : ∀ m b, lst (gl n (tp n B) (tl n B) s t) m = some b → b ≤ 143856 := lst_bound (fun i v hv => by
    unfold gl at hv
    split at hv
    · cases hv; exact tl_le hB.1 hn2 i
    · cases hv)
  have fin : P (some (.inl (cI (lst (gl n (tp n B) (tl n B) s t) n)))) (CW xfl (nI n) xcap xfs xss xbs xnx xsz xsd xct xpa xla xsi xre xcf xfn xrc) := by
    rw [lm_spec (tl n B) hTI hs ht hst]; exact hp
  have loop : ∀ m, m ≤ n → 0 < m → Z (CW xfl (nI n) xcap xfs xss xbs xnx xsz xsd xct xpa xla xsi xre xcf xfn xrc) 6 [some (.inr (.inl 7)), some (.inl (nI s)), some (.inl (nI t)), some (.inl (cI (lst (gl n (tp n B) (tl n B) s t) m))), some (.inl (nI m))] [] := by
    refine dn (Q := fun m => 0 < m → Z (CW xfl (nI n) xcap xfs xss xbs xnx xsz xsd xct xpa xla xsi xre xcf xfn xrc) 6 [some (.inr (.inl 7)), some (.inl (nI s)), some (.inl (nI t)), some (.inl (cI (lst (gl n (tp n B) (tl n B) s t) m))), some (.inl (nI m))] []) ?_ ?_
    · intro _
      refine hZ [] 40 _ _ _ _ ?_
      exact pk_le n n (fun _ => fin) (fun c => absurd c (by omega))
    · intro m hm ih hm0
      have hlt := sd_lt n (tp n B) m
      have h9 := ih (by omega)
      refine hZ [6] 60 _ _ _ _ ?_
      refine pk_le n m (fun c => absurd c (by omega)) (fun _ => ?_)
      refine And.intro (in12 (by omega)) ?_
      rw [cl12 (by omega), hsi m hm]
      refine HX4_separates rfl rfl rfl (by omega) (by omega) (by omega) ?_
      refine bz (fun hb => ?_) (fun hb => ?_)
      · have e : gl n (tp n B) (tl n B) s t m = none := by simp [gl, onp, hb]
        rw [lst, e, nI_succ] at h9
        have e2 : omin (lst (gl n (tp n B) (tl n B) s t) m) none = lst (gl n (tp n B) (tl n B) s t) m := by cases lst (gl n (tp n B) (tl n B) s t) m <;> rfl
        rw [e2] at h9
        exact h9
      · refine And.intro (in12 (by omega)) ?_
        rw [cl12 (by omega), hla.2 m hm0 hm]
        have e : gl n (tp n B) (tl n B) s t m = some (tl n B m) := by simp [gl, onp, hb, hm0]
        have hl := tl_le hB.1 hn2 m
        rw [lst, e, nI_succ, ← cI_min (by omega) (fun b q => by have := bnd m b q; omega)] at h9
        exact h9
  refine hZ [6] 40 _ _ _ _ ?_
  have h0 := loop 1 (by omega) (by omega)
  have e : gl n (tp n B) (tl n B) s t 0 = none := by simp [gl, onp]
  rw [lst, e] at h0
  exact h0
theorem zX1_leastLabel (l : Launch) : zMet l yX1_leastLabel cX1_leastLabel 5 (some .int) rX1_leastLabel kX1_leastLabel := zMet_of (by decide) ⟨rfl, rfl⟩ (oX1_leastLabel l) (fun as0 st0 P h => by
  obtain ⟨xfl, xn, xcap, xfs, xss, xbs, xnx, xsz, xsd, xct, xpa, xla, xsi, xre, xcf, xfn, xrc, n, B, s, t, a, b, h0, h1, h2, h3, h4, h5, h6, h7, rfl, rfl, hz⟩ := h
  exact ⟨Nat.le_of_ble_eq_true rfl, fun Z hZ => wX1_leastLabel eX4_separates h0 h1 h2 h3 h4 h5 h6 h7 hz hZ⟩)

theorem wt_less {n : Nat} {K : Nat → Nat → Nat} (h : ∀ i j, K i j ≤ 999) (hn : n ≤ 12) (S : Nat) : wt n K S < 143856 := by
  have h1 : ∀ u, u < n → sm (fun v => wa K S u v) n ≤ 10989 := fun u hu => by
    have e2 := sm_up (fun v => wa K S u v) u 999 n hu
    have e3 : wa K S u u = 0 := by simp [wa]
    have e4 : sm (fun i => if i = u then 999 else wa K S u i) n ≤ n * 999 := sm_bound (fun i _ => by
      split
      · omega
      · exact wa_le h _ _ _)
    omega
  have h2 := sm_bound h1
  unfold wt
  omega
/-- lightestOnWay(s, t) -/
def kX1_lightestOnWay : zK := fun as0 st0 P => ∃ xfl : Int32, ∃ xn : Int32, ∃ xcap : Nat → Nat → Int32, ∃ xfs : Nat → Int32, ∃ xss : Nat → Int32, ∃ xbs : Nat → Int32, ∃ xnx : Int32, ∃ xsz : Int32, ∃ xsd : Int32, ∃ xct : Nat → Nat → Int32, ∃ xpa : Nat → Int32, ∃ xla : Nat → Int32, ∃ xsi : Nat → Int32, ∃ xre : Nat → Nat → Int32, ∃ xcf : Nat → Int32, ∃ xfn : Int32, ∃ xrc : Int32, ∃ n : Nat, ∃ K : Nat → Nat → Nat, ∃ B : Nat → Nat → Nat, ∃ s : Nat, ∃ t : Nat, ∃ a : Int32, ∃ b : Int32, (cG xn xcap n K) ∧ (cT n xsd xct xpa xla xsi (some B)) ∧ (a = nI s) ∧ (b = nI t) ∧ (s < n) ∧ (t < n) ∧ (s ≠ t) ∧ as0 = [.inr (.inl 7), .inl a, .inl b] ∧ st0 = (CW xfl xn xcap xfs xss xbs xnx xsz xsd xct xpa xla xsi xre xcf xfn xrc) ∧ (∀ q, isB n (tp n B) K s t n q → P (some (.inl (nI q))) (CW xfl xn xcap xfs xss xbs xnx xsz xsd xct xpa xla xsi xre xcf xfn xrc))
def iX1_lightestOnWay (C0 : zK) : Prop := ∀ {xfl : Int32} {xn : Int32} {xcap : Nat → Nat → Int32} {xfs : Nat → Int32} {xss : Nat → Int32} {xbs : Nat → Int32} {xnx : Int32} {xsz : Int32} {xsd : Int32} {xct : Nat → Nat → Int32} {xpa : Nat → Int32} {xla : Nat → Int32} {xsi : Nat → Int32} {xre : Nat → Nat → Int32} {xcf : Nat → Int32} {xfn : Int32} {xrc : Int32} {n : Nat} {K : Nat → Nat → Nat} {B : Nat → Nat → Nat} {s : Nat} {t : Nat} {a : Int32} {b : Int32} {P : zP}, (cG xn xcap n K) → (cT n xsd xct xpa xla xsi (some B)) → (a = nI s) → (b = nI t) → (s < n) → (t < n) → (s ≠ t) → (∀ q, isB n (tp n B) K s t n q → P (some (.inl (nI q))) (CW xfl xn xcap xfs xss xbs xnx xsz xsd xct xpa xla xsi xre xcf xfn xrc)) → C0 [.inr (.inl 7), .inl a, .inl b] ((CW xfl xn xcap xfs xss xbs xnx xsz xsd xct xpa xla xsi xre xcf xfn xrc)) P
theorem eX1_lightestOnWay : iX1_lightestOnWay kX1_lightestOnWay := by
  intro xfl xn xcap xfs xss xbs xnx xsz xsd xct xpa xla xsi xre xcf xfn xrc n K B s t a b P h0 h1 h2 h3 h4 h5 h6 hz
  exact ⟨xfl, xn, xcap, xfs, xss, xbs, xnx, xsz, xsd, xct, xpa, xla, xsi, xre, xcf, xfn, xrc, n, K, B, s, t, a, b, h0, h1, h2, h3, h4, h5, h6, rfl, rfl, hz⟩
theorem oX1_lightestOnWay (l : Launch) : zOK l RX1 cX1_lightestOnWay rX1_lightestOnWay (some .int) (tX1_lightestOnWay, fX1, gX1, [(108, 3, 101, kX4_separates), (57, 1, 2, kX2_weightOf), (115, 2, 1, kX1_placeOnWay)], [], 1) := ⟨tX1_lightestOnWay_ok, fX1_ok, gX1_ok, List.forall_mem_cons.mpr ⟨⟨yX4_separates, cX4_separates, 3, (some .boolean), rX4_separates, zX4_separates l, by decide +kernel, ykX4_separates, lkX1_108⟩, List.forall_mem_cons.mpr ⟨⟨yX2_weightOf, cX2_weightOf, 5, (some .int), rX2_weightOf, zX2_weightOf l, by decide +kernel, ykX2_weightOf, lkX1_57⟩, List.forall_mem_cons.mpr ⟨⟨yX1_placeOnWay, cX1_placeOnWay, 4, (some .int), rX1_placeOnWay, zX1_placeOnWay l, by decide +kernel, ykX1_placeOnWay, lkX1_115⟩, fun _ h => absurd h List.not_mem_nil⟩⟩⟩, by decide +kernel, rfl⟩
set_option maxRecDepth 100000 in
set_option maxHeartbeats 4000000 in
theorem wX1_lightestOnWay {CX4_separates : zK} (HX4_separates : iX4_separates CX4_separates) {CX2_weightOf : zK} (HX2_weightOf : iX2_weightOf CX2_weightOf) {CX1_placeOnWay : zK} (HX1_placeOnWay : iX1_placeOnWay CX1_placeOnWay) {xfl : Int32} {xn : Int32} {xcap : Nat → Nat → Int32} {xfs : Nat → Int32} {xss : Nat → Int32} {xbs : Nat → Int32} {xnx : Int32} {xsz : Int32} {xsd : Int32} {xct : Nat → Nat → Int32} {xpa : Nat → Int32} {xla : Nat → Int32} {xsi : Nat → Int32} {xre : Nat → Nat → Int32} {xcf : Nat → Int32} {xfn : Int32} {xrc : Int32} {n : Nat} {K : Nat → Nat → Nat} {B : Nat → Nat → Nat} {s : Nat} {t : Nat} {a : Int32} {b : Int32} {P : zP} (hG : cG xn xcap n K) (hT : cT n xsd xct xpa xla xsi (some B)) (ha : a = nI s) (hb : b = nI t) (hs : s < n) (ht : t < n) (hst : s ≠ t) (hp : ∀ q, isB n (tp n B) K s t n q → P (some (.inl (nI q))) (CW xfl xn xcap xfs xss xbs xnx xsz xsd xct xpa xla xsi xre xcf xfn xrc)) {Z : zH} (hZ : zcl (tX1_lightestOnWay, fX1, gX1, [(108, 3, 101, CX4_separates), (57, 1, 2, CX2_weightOf), (115, 2, 1, CX1_placeOnWay)], [], 1) P Z) : Z ((CW xfl xn xcap xfs xss xbs xnx xsz xsd xct xpa xla xsi xre xcf xfn xrc)) 0 [some (.inr (.inl 7)), some (.inl a), some (.inl b), none, none, none, none] [] := by
  subst ha hb
  have hG0 := hG
  obtain ⟨rfl, hn1, hn2, hcap, hK⟩ := hG
  obtain ⟨-, hB, -, -, hla, hsi⟩ := cT_some hT
  have p12n := p12 hn2
  have hTI := tp_tI B (by omega : 0 < n)
  have loop : ∀ m, m ≤ n → 0 < m → ∀ (q w : Nat) (o : Option zV), ((q = 0 ∧ w = 143856 ∧ ∀ k, k < m → onp n (tp n B) s t k = false) ∨ (isB n (tp n B) K s t m q ∧ w = wt n K (sd n (tp n B) q))) → Z (CW xfl (nI n) xcap xfs xss xbs xnx xsz xsd xct xpa xla xsi xre xcf xfn xrc) 9 [some (.inr (.inl 7)), some (.inl (nI s)), some (.inl (nI t)), some (.inl (nI q)), some (.inl (nI w)), some (.inl (nI m)), o] [] := by
    refine dn (Q := fun m => 0 < m → ∀ (q w : Nat) (o : Option zV), ((q = 0 ∧ w = 143856 ∧ ∀ k, k < m → onp n (tp n B) s t k = false) ∨ (isB n (tp n B) K s t m q ∧ w = wt n K (sd n (tp n B) q))) → Z (CW xfl (nI n) xcap xfs xss xbs xnx xsz xsd xct xpa xla xsi xre xcf xfn xrc) 9 [some (.inr (.inl 7)), some (.inl (nI s)), some (.inl (nI t)), some (.inl (nI q)), some (.inl (nI w)), some (.inl (nI m)), o] []) ?_ ?_
    · intro _ q w o h
      refine hZ [] 40 _ _ _ _ ?_
      refine pk_le n n (fun _ => ?_) (fun c => absurd c (by omega))
      rcases h with ⟨-, -, h⟩ | ⟨h, -⟩
      · obtain ⟨k, h1, h2⟩ := path_ex hTI hs ht hst
        rw [h k h1] at h2; cases h2
      · exact hp q h
    · intro m hm ih hm0 q w o h
      have hlt := sd_lt n (tp n B) m
      have hwm := wt_less hK.1 hn2 (sd n (tp n B) m)
      have hw31 : w < 2 ^ 31 := by
        rcases h with ⟨-, h, -⟩ | ⟨-, h⟩
        · omega
        · have := wt_bound hK.1 hn2 (sd n (tp n B) q); omega
      -- the node m is taken
      have take : onp n (tp n B) s t m = true → (∀ k, k < m → onp n (tp n B) s t k = true → wt n K (sd n (tp n B) m) < wt n K (sd n (tp n B) k) ∨ (wt n K (sd n (tp n B) m) = wt n K (sd n (tp n B) k) ∧ plc n (tp n B) s m ≤ plc n (tp n B) s k)) → Z (CW xfl (nI n) xcap xfs xss xbs xnx xsz xsd xct xpa xla xsi xre xcf xfn xrc) 9 [some (.inr (.inl 7)), some (.inl (nI s)), some (.inl (nI t)), some (.inl (nI m)), some (.inl (nI (wt n K (sd n (tp n B) m)))), some (.inl (nI m + 1)), some (.inl (nI (wt n K (sd n (tp n B) m))))] [] := by
        intro h1 h2
        have h9 := ih (by omega) m _ (some (.inl (nI (wt n K (sd n (tp n B) m))))) (Or.inr ⟨⟨by omega, h1, fun k hk hk2 => by
          by_cases e : k = m
          · subst e; exact Or.inr ⟨rfl, Nat.le_refl _⟩
          · exact h2 k (by omega) hk2⟩, rfl⟩)
        rw [nI_succ] at h9
        exact h9
      -- the node m is passed by
      have pass : ∀ o, (onp n (tp n B) s t m = true → isB n (tp n B) K s t m q ∧ (wt n K (sd n (tp n B) q) < wt n K (sd n (tp n B) m) ∨ (wt n K (sd n (tp n B) q) = wt n K (sd n (tp n B) m) ∧ plc n (tp n B) s q ≤ plc n (tp n B) s m))) → Z (CW xfl (nI n) xcap xfs xss xbs xnx xsz xsd xct xpa xla xsi xre xcf xfn xrc) 9 [some (.inr (.inl 7)), some (.inl (nI s)), some (.inl (nI t)), some (.inl (nI q)), some (.inl (nI w)), some (.inl (nI m + 1)), o] [] := by
        intro o h1
        have h9 := ih (by omega) q w o (by
          cases e : onp n (tp n B) s t m with
          | false =>
            rcases h with ⟨a1, a2, a3⟩ | ⟨a1, a2⟩
            · exact Or.inl ⟨a1, a2, fun k hk => by
                by_cases e2 : k = m
                · subst e2; exact e
                · exact a3 k (by omega)⟩
            · refine Or.inr ⟨⟨Nat.lt_succ_of_lt a1.1, a1.2.1, fun k hk hk2 => ?_⟩, a2⟩
              by_cases e2 : k = m
              · subst e2; rw [e] at hk2; cases hk2
              · exact a1.2.2 k (by omega) hk2
          | true =>
            obtain ⟨b1, b2⟩ := h1 e
            rcases h with ⟨a1, a2, a3⟩ | ⟨a1, a2⟩
            · have := a3 q b1.1; rw [b1.2.1] at this; cases this
            · refine Or.inr ⟨⟨Nat.lt_succ_of_lt a1.1, a1.2.1, fun k hk hk2 => ?_⟩, a2⟩
              by_cases e2 : k = m
              · subst e2; exact b2
              · exact a1.2.2 k (by omega) hk2)
        rw [nI_succ] at h9
        exact h9
      refine hZ [9] 90 _ _ _ _ ?_
      refine pk_le n m (fun c => absurd c (by omega)) (fun _ => ?_)
      refine And.intro (in12 (by omega)) ?_
      rw [cl12 (by omega), hsi m hm]
      refine HX4_separates rfl rfl rfl (by omega) (by omega) (by omega) ?_
      refine bz (fun hb => ?_) (fun hb => ?_)
      · exact pass o (fun q => by simp [onp, hb] at q)
      · have hon : onp n (tp n B) s t m = true := by simp [onp, hb, hm0]
        refine And.intro (in12 (by omega)) ?_
        rw [cl12 (by omega), hsi m hm]
        refine HX2_weightOf hG0 rfl (by omega) ?_
        refine pk_lt (wt n K (sd n (tp n B) m)) w (fun c => ?_) (fun c => ?_)
        · refine take hon (fun k hk hk2 => ?_)
          rcases h with ⟨a1, a2, a3⟩ | ⟨a1, a2⟩
          · rw [a3 k hk] at hk2; cases hk2
          · have := a1.2.2 k hk hk2; omega
        · rcases h with ⟨a1, a2, a3⟩ | ⟨a1, a2⟩
          · omega
          · subst a2
            have hqn : q < n := Nat.lt_trans a1.1 hm
            refine And.intro (fun c2 => ?_) (fun c2 => ?_)
            · have c2 : wt n K (sd n (tp n B) m) ≠ wt n K (sd n (tp n B) q) := fun e => c2 (by rw [e])
              exact pass _ (fun _ => ⟨a1, Or.inl (by omega)⟩)
            · have c2 : wt n K (sd n (tp n B) m) = wt n K (sd n (tp n B) q) := (nI_eq (by omega) hw31).mp c2
              refine HX1_placeOnWay hn2 hT rfl rfl hm hs ?_
              refine HX1_placeOnWay hn2 hT rfl rfl hqn hs ?_
              have pb : ∀ k, plc n (tp n B) s k ≤ 24 := fun k => by
                have := cnt_le 12 (sd n (tp n B) k)
                unfold plc; split <;> omega
              have pb1 := pb m
              have pb2 := pb q
              refine pk_le (plc n (tp n B) s q) (plc n (tp n B) s m) (fun c3 => ?_) (fun c3 => ?_)
              · exact pass _ (fun _ => ⟨a1, Or.inr ⟨c2.symm, c3⟩⟩)
              · refine take hon (fun k hk hk2 => ?_)
                have := a1.2.2 k hk hk2
                omega
  refine hZ [9] 40 _ _ _ _ ?_
  exact loop 1 (by omega) (by omega) 0 143856 none (Or.inl ⟨rfl, rfl, fun k hk => by
    obtain rfl : k = 0 := by omega
    simp [onp]⟩)
theorem zX1_lightestOnWay (l : Launch) : zMet l yX1_lightestOnWay cX1_lightestOnWay 7 (some .int) rX1_lightestOnWay kX1_lightestOnWay := zMet_of (by decide) ⟨rfl, rfl⟩ (oX1_lightestOnWay l) (fun as0 st0 P h => by
  obtain ⟨xfl, xn, xcap, xfs, xss, xbs, xnx, xsz, xsd, xct, xpa, xla, xsi, xre, xcf, xfn, xrc, n, K, B, s, t, a, b, h0, h1, h2, h3, h4, h5, h6, rfl, rfl, hz⟩ := h
  exact ⟨Nat.le_of_ble_eq_true rfl, fun Z hZ => wX1_lightestOnWay eX4_separates eX2_weightOf eX1_placeOnWay h0 h1 h2 h3 h4 h5 h6 hz hZ⟩)

/-- atLeast(s, t) -/
def kX1_atLeast : zK := fun as0 st0 P => ∃ xfl : Int32, ∃ xn : Int32, ∃ xcap : Nat → Nat → Int32, ∃ xfs : Nat → Int32, ∃ xss : Nat → Int32, ∃ xbs : Nat → Int32, ∃ xnx : Int32, ∃ xsz : Int32, ∃ xsd : Int32, ∃ xct : Nat → Nat → Int32, ∃ xpa : Nat → Int32, ∃ xla : Nat → Int32, ∃ xsi : Nat → Int32, ∃ xre : Nat → Nat → Int32, ∃ xcf : Nat → Int32, ∃ xfn : Int32, ∃ xrc : Int32, ∃ n : Nat, ∃ K : Nat → Nat → Nat, ∃ B : Nat → Nat → Nat, ∃ s : Nat, ∃ t : Nat, ∃ a : Int32, ∃ b : Int32, (cG xn xcap n K) ∧ (cT n xsd xct xpa xla xsi (some B)) ∧ (a = nI s) ∧ (b = nI t) ∧ (s < n) ∧ (t < n) ∧ (s ≠ t) ∧ as0 = [.inr (.inl 7), .inl a, .inl b] ∧ st0 = (CW xfl xn xcap xfs xss xbs xnx xsz xsd xct xpa xla xsi xre xcf xfn xrc) ∧ (P (some (.inl (nI (lm n (tp n B) (tl n B) s t - los n B K)))) (CW xfl xn xcap xfs xss xbs xnx xsz xsd xct xpa xla xsi xre xcf xfn xrc))
def iX1_atLeast (C0 : zK) : Prop := ∀ {xfl : Int32} {xn : Int32} {xcap : Nat → Nat → Int32} {xfs : Nat → Int32} {xss : Nat → Int32} {xbs : Nat → Int32} {xnx : Int32} {xsz : Int32} {xsd : Int32} {xct : Nat → Nat → Int32} {xpa : Nat → Int32} {xla : Nat → Int32} {xsi : Nat → Int32} {xre : Nat → Nat → Int32} {xcf : Nat → Int32} {xfn : Int32} {xrc : Int32} {n : Nat} {K : Nat → Nat → Nat} {B : Nat → Nat → Nat} {s : Nat} {t : Nat} {a : Int32} {b : Int32} {P : zP}, (cG xn xcap n K) → (cT n xsd xct xpa xla xsi (some B)) → (a = nI s) → (b = nI t) → (s < n) → (t < n) → (s ≠ t) → (P (some (.inl (nI (lm n (tp n B) (tl n B) s t - los n B K)))) (CW xfl xn xcap xfs xss xbs xnx xsz xsd xct xpa xla xsi xre xcf xfn xrc)) → C0 [.inr (.inl 7), .inl a, .inl b] ((CW xfl xn xcap xfs xss xbs xnx xsz xsd xct xpa xla xsi xre xcf xfn xrc)) P
theorem eX1_atLeast : iX1_atLeast kX1_atLeast := by
  intro xfl xn xcap xfs xss xbs xnx xsz xsd xct xpa xla xsi xre xcf xfn xrc n K B s t a b P h0 h1 h2 h3 h4 h5 h6 hz
  exact ⟨xfl, xn, xcap, xfs, xss, xbs, xnx, xsz, xsd, xct, xpa, xla, xsi, xre, xcf, xfn, xrc, n, K, B, s, t, a, b, h0, h1, h2, h3, h4, h5, h6, rfl, rfl, hz⟩
theorem oX1_atLeast (l : Launch) : zOK l RX1 cX1_atLeast rX1_atLeast (some .int) (tX1_atLeast, fX1, gX1, [(98, 2, 1, kX1_leastLabel), (101, 0, 1, kX1_lostCapacity)], [(92, 1)], 1) := ⟨tX1_atLeast_ok, fX1_ok, gX1_ok, List.forall_mem_cons.mpr ⟨⟨yX1_leastLabel, cX1_leastLabel, 5, (some .int), rX1_leastLabel, zX1_leastLabel l, by decide +kernel, ykX1_leastLabel, lkX1_98⟩, List.forall_mem_cons.mpr ⟨⟨yX1_lostCapacity, cX1_lostCapacity, 4, (some .int), rX1_lostCapacity, zX1_lostCapacity l, by decide +kernel, ykX1_lostCapacity, lkX1_101⟩, fun _ h => absurd h List.not_mem_nil⟩⟩, by decide +kernel, rfl⟩
set_option maxRecDepth 100000 in
set_option maxHeartbeats 4000000 in
theorem wX1_atLeast {CX1_leastLabel : zK} (HX1_leastLabel : iX1_leastLabel CX1_leastLabel) {CX1_lostCapacity : zK} (HX1_lostCapacity : iX1_lostCapacity CX1_lostCapacity) {xfl : Int32} {xn : Int32} {xcap : Nat → Nat → Int32} {xfs : Nat → Int32} {xss : Nat → Int32} {xbs : Nat → Int32} {xnx : Int32} {xsz : Int32} {xsd : Int32} {xct : Nat → Nat → Int32} {xpa : Nat → Int32} {xla : Nat → Int32} {xsi : Nat → Int32} {xre : Nat → Nat → Int32} {xcf : Nat → Int32} {xfn : Int32} {xrc : Int32} {n : Nat} {K : Nat → Nat → Nat} {B : Nat → Nat → Nat} {s : Nat} {t : Nat} {a : Int32} {b : Int32} {P : zP} (hG : cG xn xcap n K) (hT : cT n xsd xct xpa xla xsi (some B)) (ha : a = nI s) (hb : b = nI t) (hs : s < n) (ht : t < n) (hst : s ≠ t) (hp : P (some (.inl (nI (lm n (tp n B) (tl n B) s t - los n B K)))) (CW xfl xn xcap xfs xss xbs xnx xsz xsd xct xpa xla xsi xre xcf xfn xrc)) {Z : zH} (hZ : zcl (tX1_atLeast, fX1, gX1, [(98, 2, 1, CX1_leastLabel), (101, 0, 1, CX1_lostCapacity)], [(92, 1)], 1) P Z) : Z ((CW xfl xn xcap xfs xss xbs xnx xsz xsd xct xpa xla xsi xre xcf xfn xrc)) 0 [some (.inr (.inl 7)), some (.inl a), some (.inl b)] [] := by
  have hn2 := hG.2.2.1
  have hB := (cT_some hT).2.1
  have h1 := lm_le (n := n) (p := tp n B) (tl_le hB.1 hn2) s t
  have h2 := los_le (K := K) hB.1 hn2
  refine hZ [] 40 _ _ _ _ ?_
  refine HX1_leastLabel hG.1 hn2 hT ha hb hs ht hst ?_
  refine HX1_lostCapacity hG hT ?_
  rw [← imax_sub (by omega) (by omega)] at hp
  exact hp
theorem zX1_atLeast (l : Launch) : zMet l yX1_atLeast cX1_atLeast 3 (some .int) rX1_atLeast kX1_atLeast := zMet_of (by decide) ⟨rfl, rfl⟩ (oX1_atLeast l) (fun as0 st0 P h => by
  obtain ⟨xfl, xn, xcap, xfs, xss, xbs, xnx, xsz, xsd, xct, xpa, xla, xsi, xre, xcf, xfn, xrc, n, K, B, s, t, a, b, h0, h1, h2, h3, h4, h5, h6, rfl, rfl, hz⟩ := h
  exact ⟨Nat.le_of_ble_eq_true rfl, fun Z hZ => wX1_atLeast eX1_leastLabel eX1_lostCapacity h0 h1 h2 h3 h4 h5 h6 hz hZ⟩)

/-- atMost(s, t) -/
def kX1_atMost : zK := fun as0 st0 P => ∃ xfl : Int32, ∃ xn : Int32, ∃ xcap : Nat → Nat → Int32, ∃ xfs : Nat → Int32, ∃ xss : Nat → Int32, ∃ xbs : Nat → Int32, ∃ xnx : Int32, ∃ xsz : Int32, ∃ xsd : Int32, ∃ xct : Nat → Nat → Int32, ∃ xpa : Nat → Int32, ∃ xla : Nat → Int32, ∃ xsi : Nat → Int32, ∃ xre : Nat → Nat → Int32, ∃ xcf : Nat → Int32, ∃ xfn : Int32, ∃ xrc : Int32, ∃ n : Nat, ∃ K : Nat → Nat → Nat, ∃ B : Nat → Nat → Nat, ∃ s : Nat, ∃ t : Nat, ∃ a : Int32, ∃ b : Int32, (cG xn xcap n K) ∧ (cT n xsd xct xpa xla xsi (some B)) ∧ (a = nI s) ∧ (b = nI t) ∧ (s < n) ∧ (t < n) ∧ (s ≠ t) ∧ as0 = [.inr (.inl 7), .inl a, .inl b] ∧ st0 = (CW xfl xn xcap xfs xss xbs xnx xsz xsd xct xpa xla xsi xre xcf xfn xrc) ∧ (P (some (.inl (nI (lw n (tp n B) K s t)))) (CW xfl xn xcap xfs xss xbs xnx xsz xsd xct xpa xla xsi xre xcf xfn xrc))
def iX1_atMost (C0 : zK) : Prop := ∀ {xfl : Int32} {xn : Int32} {xcap : Nat → Nat → Int32} {xfs : Nat → Int32} {xss : Nat → Int32} {xbs : Nat → Int32} {xnx : Int32} {xsz : Int32} {xsd : Int32} {xct : Nat → Nat → Int32} {xpa : Nat → Int32} {xla : Nat → Int32} {xsi : Nat → Int32} {xre : Nat → Nat → Int32} {xcf : Nat → Int32} {xfn : Int32} {xrc : Int32} {n : Nat} {K : Nat → Nat → Nat} {B : Nat → Nat → Nat} {s : Nat} {t : Nat} {a : Int32} {b : Int32} {P : zP}, (cG xn xcap n K) → (cT n xsd xct xpa xla xsi (some B)) → (a = nI s) → (b = nI t) → (s < n) → (t < n) → (s ≠ t) → (P (some (.inl (nI (lw n (tp n B) K s t)))) (CW xfl xn xcap xfs xss xbs xnx xsz xsd xct xpa xla xsi xre xcf xfn xrc)) → C0 [.inr (.inl 7), .inl a, .inl b] ((CW xfl xn xcap xfs xss xbs xnx xsz xsd xct xpa xla xsi xre xcf xfn xrc)) P
theorem eX1_atMost : iX1_atMost kX1_atMost := by
  intro xfl xn xcap xfs xss xbs xnx xsz xsd xct xpa xla xsi xre xcf xfn xrc n K B s t a b P h0 h1 h2 h3 h4 h5 h6 hz
  exact ⟨xfl, xn, xcap, xfs, xss, xbs, xnx, xsz, xsd, xct, xpa, xla, xsi, xre, xcf, xfn, xrc, n, K, B, s, t, a, b, h0, h1, h2, h3, h4, h5, h6, rfl, rfl, hz⟩
theorem oX1_atMost (l : Launch) : zOK l RX1 cX1_atMost rX1_atMost (some .int) (tX1_atMost, fX1, gX1, [(104, 2, 1, kX1_lightestOnWay), (57, 1, 2, kX2_weightOf)], [], 1) := ⟨tX1_atMost_ok, fX1_ok, gX1_ok, List.forall_mem_cons.mpr ⟨⟨yX1_lightestOnWay, cX1_lightestOnWay, 7, (some .int), rX1_lightestOnWay, zX1_lightestOnWay l, by decide +kernel, ykX1_lightestOnWay, lkX1_104⟩, List.forall_mem_cons.mpr ⟨⟨yX2_weightOf, cX2_weightOf, 5, (some .int), rX2_weightOf, zX2_weightOf l, by decide +kernel, ykX2_weightOf, lkX1_57⟩, fun _ h => absurd h List.not_mem_nil⟩⟩, by decide +kernel, rfl⟩
set_option maxRecDepth 100000 in
set_option maxHeartbeats 4000000 in
theorem wX1_atMost {CX1_lightestOnWay : zK} (HX1_lightestOnWay : iX1_lightestOnWay CX1_lightestOnWay) {CX2_weightOf : zK} (HX2_weightOf : iX2_weightOf CX2_weightOf) {xfl : Int32} {xn : Int32} {xcap : Nat → Nat → Int32} {xfs : Nat → Int32} {xss : Nat → Int32} {xbs : Nat → Int32} {xnx : Int32} {xsz : Int32} {xsd : Int32} {xct : Nat → Nat → Int32} {xpa : Nat → Int32} {xla : Nat → Int32} {xsi : Nat → Int32} {xre : Nat → Nat → Int32} {xcf : Nat → Int32} {xfn : Int32} {xrc : Int32} {n : Nat} {K : Nat → Nat → Nat} {B : Nat → Nat → Nat} {s : Nat} {t : Nat} {a : Int32} {b : Int32} {P : zP} (hG : cG xn xcap n K) (hT : cT n xsd xct xpa xla xsi (some B)) (ha : a = nI s) (hb : b = nI t) (hs : s < n) (ht : t < n) (hst : s ≠ t) (hp : P (some (.inl (nI (lw n (tp n B) K s t)))) (CW xfl xn xcap xfs xss xbs xnx xsz xsd xct xpa xla xsi xre xcf xfn xrc)) {Z : zH} (hZ : zcl (tX1_atMost, fX1, gX1, [(104, 2, 1, CX1_lightestOnWay), (57, 1, 2, CX2_weightOf)], [], 1) P Z) : Z ((CW xfl xn xcap xfs xss xbs xnx xsz xsd xct xpa xla xsi xre xcf xfn xrc)) 0 [some (.inr (.inl 7)), some (.inl a), some (.inl b)] [] := by
  have hn2 := hG.2.2.1
  have p12n := p12 hn2
  have hsi := (cT_some hT).2.2.2.2.2
  have hTI := tp_tI B (by omega : 0 < n)
  refine hZ [] 40 _ _ _ _ ?_
  refine HX1_lightestOnWay hG hT ha hb hs ht hst (fun q hq => ?_)
  have hqn := hq.1
  have hlt := sd_lt n (tp n B) q
  refine And.intro (in12 (by omega)) ?_
  rw [cl12 (by omega), hsi q hqn]
  refine HX2_weightOf hG rfl (by omega) ?_
  rw [isB_lw hTI hs ht hst hq] at hp
  exact hp
theorem zX1_atMost (l : Launch) : zMet l yX1_atMost cX1_atMost 3 (some .int) rX1_atMost kX1_atMost := zMet_of (by decide) ⟨rfl, rfl⟩ (oX1_atMost l) (fun as0 st0 P h => by
  obtain ⟨xfl, xn, xcap, xfs, xss, xbs, xnx, xsz, xsd, xct, xpa, xla, xsi, xre, xcf, xfn, xrc, n, K, B, s, t, a, b, h0, h1, h2, h3, h4, h5, h6, rfl, rfl, hz⟩ := h
  exact ⟨Nat.le_of_ble_eq_true rfl, fun Z hZ => wX1_atMost eX1_lightestOnWay eX2_weightOf h0 h1 h2 h3 h4 h5 h6 hz hZ⟩)

/-- the answer of witness, by the node q -/
def wit (n : Nat) (p : Nat → Nat) (s q : Nat) : Int32 := if (sd n p q).testBit s = true then nI (sd n p q) else nI (2 ^ n - 1) &&& (nI (sd n p q) ^^^ (-1))
/-- lightestCutOnWay(s, t) -/
def kX1_lightestCutOnWay : zK := fun as0 st0 P => ∃ xfl : Int32, ∃ xn : Int32, ∃ xcap : Nat → Nat → Int32, ∃ xfs : Nat → Int32, ∃ xss : Nat → Int32, ∃ xbs : Nat → Int32, ∃ xnx : Int32, ∃ xsz : Int32, ∃ xsd : Int32, ∃ xct : Nat → Nat → Int32, ∃ xpa : Nat → Int32, ∃ xla : Nat → Int32, ∃ xsi : Nat → Int32, ∃ xre : Nat → Nat → Int32, ∃ xcf : Nat → Int32, ∃ xfn : Int32, ∃ xrc : Int32, ∃ n : Nat, ∃ K : Nat → Nat → Nat, ∃ B : Nat → Nat → Nat, ∃ s : Nat, ∃ t : Nat, ∃ a : Int32, ∃ b : Int32, (cG xn xcap n K) ∧ (cT n xsd xct xpa xla xsi (some B)) ∧ (a = nI s) ∧ (b = nI t) ∧ (s < n) ∧ (t < n) ∧ (s ≠ t) ∧ as0 = [.inr (.inl 7), .inl a, .inl b] ∧ st0 = (CW xfl xn xcap xfs xss xbs xnx xsz xsd xct xpa xla xsi xre xcf xfn xrc) ∧ (∀ q, isB n (tp n B) K s t n q → P (some (.inl (wit n (tp n B) s q))) (CW xfl xn xcap xfs xss xbs xnx xsz xsd xct xpa xla xsi xre xcf xfn xrc))
def iX1_lightestCutOnWay (C0 : zK) : Prop := ∀ {xfl : Int32} {xn : Int32} {xcap : Nat → Nat → Int32} {xfs : Nat → Int32} {xss : Nat → Int32} {xbs : Nat → Int32} {xnx : Int32} {xsz : Int32} {xsd : Int32} {xct : Nat → Nat → Int32} {xpa : Nat → Int32} {xla : Nat → Int32} {xsi : Nat → Int32} {xre : Nat → Nat → Int32} {xcf : Nat → Int32} {xfn : Int32} {xrc : Int32} {n : Nat} {K : Nat → Nat → Nat} {B : Nat → Nat → Nat} {s : Nat} {t : Nat} {a : Int32} {b : Int32} {P : zP}, (cG xn xcap n K) → (cT n xsd xct xpa xla xsi (some B)) → (a = nI s) → (b = nI t) → (s < n) → (t < n) → (s ≠ t) → (∀ q, isB n (tp n B) K s t n q → P (some (.inl (wit n (tp n B) s q))) (CW xfl xn xcap xfs xss xbs xnx xsz xsd xct xpa xla xsi xre xcf xfn xrc)) → C0 [.inr (.inl 7), .inl a, .inl b] ((CW xfl xn xcap xfs xss xbs xnx xsz xsd xct xpa xla xsi xre xcf xfn xrc)) P
theorem eX1_lightestCutOnWay : iX1_lightestCutOnWay kX1_lightestCutOnWay := by
  intro xfl xn xcap xfs xss xbs xnx xsz xsd xct xpa xla xsi xre xcf xfn xrc n K B s t a b P h0 h1 h2 h3 h4 h5 h6 hz
  exact ⟨xfl, xn, xcap, xfs, xss, xbs, xnx, xsz, xsd, xct, xpa, xla, xsi, xre, xcf, xfn, xrc, n, K, B, s, t, a, b, h0, h1, h2, h3, h4, h5, h6, rfl, rfl, hz⟩
theorem oX1_lightestCutOnWay (l : Launch) : zOK l RX1 cX1_lightestCutOnWay rX1_lightestCutOnWay (some .int) (tX1_lightestCutOnWay, fX1, gX1, [(104, 2, 1, kX1_lightestOnWay), (77, 2, 101, kX4_holds), (85, 0, 2, kX2_allNodes)], [], 1) := ⟨tX1_lightestCutOnWay_ok, fX1_ok, gX1_ok, List.forall_mem_cons.mpr ⟨⟨yX1_lightestOnWay, cX1_lightestOnWay, 7, (some .int), rX1_lightestOnWay, zX1_lightestOnWay l, by decide +kernel, ykX1_lightestOnWay, lkX1_104⟩, List.forall_mem_cons.mpr ⟨⟨yX4_holds, cX4_holds, 2, (some .boolean), rX4_holds, zX4_holds l, by decide +kernel, ykX4_holds, lkX1_77⟩, List.forall_mem_cons.mpr ⟨⟨yX2_allNodes, cX2_allNodes, 1, (some .int), rX2_allNodes, zX2_allNodes l, by decide +kernel, ykX2_allNodes, lkX1_85⟩, fun _ h => absurd h List.not_mem_nil⟩⟩⟩, by decide +kernel, rfl⟩
set_option maxRecDepth 100000 in
set_option maxHeartbeats 4000000 in
theorem wX1_lightestCutOnWay {CX1_lightestOnWay : zK} (HX1_lightestOnWay : iX1_lightestOnWay CX1_lightestOnWay) {CX4_holds : zK} (HX4_holds : iX4_holds CX4_holds) {CX2_allNodes : zK} (HX2_allNodes : iX2_allNodes CX2_allNodes) {xfl : Int32} {xn : Int32} {xcap : Nat → Nat → Int32} {xfs : Nat → Int32} {xss : Nat → Int32} {xbs : Nat → Int32} {xnx : Int32} {xsz : Int32} {xsd : Int32} {xct : Nat → Nat → Int32} {xpa : Nat → Int32} {xla : Nat → Int32} {xsi : Nat → Int32} {xre : Nat → Nat → Int32} {xcf : Nat → Int32} {xfn : Int32} {xrc : Int32} {n : Nat} {K : Nat → Nat → Nat} {B : Nat → Nat → Nat} {s : Nat} {t : Nat} {a : Int32} {b : Int32} {P : zP} (hG : cG xn xcap n K) (hT : cT n xsd xct xpa xla xsi (some B)) (ha : a = nI s) (hb : b = nI t) (hs : s < n) (ht : t < n) (hst : s ≠ t) (hp : ∀ q, isB n (tp n B) K s t n q → P (some (.inl (wit n (tp n B) s q))) (CW xfl xn xcap xfs xss xbs xnx xsz xsd xct xpa xla xsi xre xcf xfn xrc)) {Z : zH} (hZ : zcl (tX1_lightestCutOnWay, fX1, gX1, [(104, 2, 1, CX1_lightestOnWay), (77, 2, 101, CX4_holds), (85, 0, 2, CX2_allNodes)], [], 1) P Z) : Z ((CW xfl xn xcap xfs xss xbs xnx xsz xsd xct xpa xla xsi xre xcf xfn xrc)) 0 [some (.inr (.inl 7)), some (.inl a), some (.inl b), none] [] := by
  have hn2 := hG.2.2.1
  have p12n := p12 hn2
  have hsi := (cT_some hT).2.2.2.2.2
  refine hZ [] 60 _ _ _ _ ?_
  refine HX1_lightestOnWay hG hT ha hb hs ht hst (fun q hq => ?_)
  have hqn := hq.1
  have hlt := sd_lt n (tp n B) q
  have h9 := hp q hq
  refine And.intro (in12 (by omega)) ?_
  rw [cl12 (by omega), hsi q hqn]
  refine HX4_holds rfl ha (by omega) (by omega) ?_
  refine bz (fun hb => ?_) (fun hb => ?_)
  · refine HX2_allNodes hG.1 hn2 ?_
    rw [wit, if_neg (by rw [hb]; decide)] at h9
    exact h9
  · rw [wit, if_pos hb] at h9
    exact h9
theorem zX1_lightestCutOnWay (l : Launch) : zMet l yX1_lightestCutOnWay cX1_lightestCutOnWay 4 (some .int) rX1_lightestCutOnWay kX1_lightestCutOnWay := zMet_of (by decide) ⟨rfl, rfl⟩ (oX1_lightestCutOnWay l) (fun as0 st0 P h => by
  obtain ⟨xfl, xn, xcap, xfs, xss, xbs, xnx, xsz, xsd, xct, xpa, xla, xsi, xre, xcf, xfn, xrc, n, K, B, s, t, a, b, h0, h1, h2, h3, h4, h5, h6, rfl, rfl, hz⟩ := h
  exact ⟨Nat.le_of_ble_eq_true rfl, fun Z hZ => wX1_lightestCutOnWay eX1_lightestOnWay eX4_holds eX2_allNodes h0 h1 h2 h3 h4 h5 h6 hz hZ⟩)

