/-- lighterThan(k) -/
def kX1_lighterThan : zK := fun as0 st0 P => ∃ xfl : Int32, ∃ xn : Int32, ∃ xcap : Nat → Nat → Int32, ∃ xfs : Nat → Int32, ∃ xss : Nat → Int32, ∃ xbs : Nat → Int32, ∃ xnx : Int32, ∃ xsz : Int32, ∃ xsd : Int32, ∃ xct : Nat → Nat → Int32, ∃ xpa : Nat → Int32, ∃ xla : Nat → Int32, ∃ xsi : Nat → Int32, ∃ xre : Nat → Nat → Int32, ∃ xcf : Nat → Int32, ∃ xfn : Int32, ∃ xrc : Int32, ∃ n : Nat, ∃ B : Nat → Nat → Nat, ∃ k : Nat, ∃ a : Int32, (nI n = xn) ∧ (n ≤ 12) ∧ (cT n xsd xct xpa xla xsi (some B)) ∧ (a = nI k) ∧ (0 < k) ∧ (k < n) ∧ as0 = [.inr (.inl 7), .inl a] ∧ st0 = (CW xfl xn xcap xfs xss xbs xnx xsz xsd xct xpa xla xsi xre xcf xfn xrc) ∧ (P (some (.inl (nI (ltn n (tl n B) k)))) (CW xfl xn xcap xfs xss xbs xnx xsz xsd xct xpa xla xsi xre xcf xfn xrc))
def iX1_lighterThan (C0 : zK) : Prop := ∀ {xfl : Int32} {xn : Int32} {xcap : Nat → Nat → Int32} {xfs : Nat → Int32} {xss : Nat → Int32} {xbs : Nat → Int32} {xnx : Int32} {xsz : Int32} {xsd : Int32} {xct : Nat → Nat → Int32} {xpa : Nat → Int32} {xla : Nat → Int32} {xsi : Nat → Int32} {xre : Nat → Nat → Int32} {xcf : Nat → Int32} {xfn : Int32} {xrc : Int32} {n : Nat} {B : Nat → Nat → Nat} {k : Nat} {a : Int32} {P : zP}, (nI n = xn) → (n ≤ 12) → (cT n xsd xct xpa xla xsi (some B)) → (a = nI k) → (0 < k) → (k < n) → (P (some (.inl (nI (ltn n (tl n B) k)))) (CW xfl xn xcap xfs xss xbs xnx xsz xsd xct xpa xla xsi xre xcf xfn xrc)) → C0 [.inr (.inl 7), .inl a] ((CW xfl xn xcap xfs xss xbs xnx xsz xsd xct xpa xla xsi xre xcf xfn xrc)) P
theorem eX1_lighterThan : iX1_lighterThan kX1_lighterThan := by
  intro xfl xn xcap xfs xss xbs xnx xsz xsd xct xpa xla xsi xre xcf xfn xrc n B k a P h0 h1 h2 h3 h4 h5 hz
  exact ⟨xfl, xn, xcap, xfs, xss, xbs, xnx, xsz, xsd, xct, xpa, xla, xsi, xre, xcf, xfn, xrc, n, B, k, a, h0, h1, h2, h3, h4, h5, rfl, rfl, hz⟩
theorem oX1_lighterThan (l : Launch) : zOK l RX1 cX1_lighterThan rX1_lighterThan (some .int) (tX1_lighterThan, fX1, gX1, [], [], 1) := ⟨tX1_lighterThan_ok, fX1_ok, gX1_ok, fun _ h => absurd h List.not_mem_nil, by decide +kernel, rfl⟩
set_option maxRecDepth 100000 in
set_option maxHeartbeats 4000000 in
theorem wX1_lighterThan {xfl : Int32} {xn : Int32} {xcap : Nat → Nat → Int32} {xfs : Nat → Int32} {xss : Nat → Int32} {xbs : Nat → Int32} {xnx : Int32} {xsz : Int32} {xsd : Int32} {xct : Nat → Nat → Int32} {xpa : Nat → Int32} {xla : Nat → Int32} {xsi : Nat → Int32} {xre : Nat → Nat → Int32} {xcf : Nat → Int32} {xfn : Int32} {xrc : Int32} {n : Nat} {B : Nat → Nat → Nat} {k : Nat} {a : Int32} {P : zP} (hn : nI n = xn) (hn2 : n ≤ 12) (hT : cT n xsd xct xpa xla xsi (some B)) (ha : a = nI k) (hk0 : 0 < k) (hk : k < n) (hp : P (some (.inl (nI (ltn n (tl n B) k)))) (CW xfl xn xcap xfs xss xbs xnx xsz xsd xct xpa xla xsi xre xcf xfn xrc)) {Z : zH} (hZ : zcl (tX1_lighterThan, fX1, gX1, [], [], 1) P Z) : Z ((CW xfl xn xcap xfs xss xbs xnx xsz xsd xct xpa xla xsi xre xcf xfn xrc)) 0 [some (.inr (.inl 7)), some (.inl a), none, none] [] := by
  subst ha hn
  obtain ⟨-, hB, -, -, hla, hsi⟩ := cT_some hT
  have hlk := tl_le hB.1 hn2 k
  have loop : ∀ m, m ≤ n → 0 < m → Z (CW xfl (nI n) xcap xfs xss xbs xnx xsz xsd xct xpa xla xsi xre xcf xfn xrc) 4 [some (.inr (.inl 7)), some (.inl (nI k)), some (.inl (nI (sm (fun x => ltf (tl n B) k x) m))), some (.inl (nI m))] [] := by
    refine dn (Q := fun m => 0 < m → Z (CW xfl (nI n) xcap xfs xss xbs xnx xsz xsd xct xpa xla xsi xre xcf xfn xrc) 4 [some (.inr (.inl 7)), some (.inl (nI k)), some (.inl (nI (sm (fun x => ltf (tl n B) k x) m))), some (.inl (nI m))] []) ?_ ?_
    · intro _
      refine hZ [] 40 _ _ _ _ ?_
      exact pk_le n n (fun _ => hp) (fun c => absurd c (by omega))
    · intro m hm ih hm0
      have h9 := ih (by omega)
      have hlm := tl_le hB.1 hn2 m
      have yes : ltf (tl n B) k m = 1 → Z (CW xfl (nI n) xcap xfs xss xbs xnx xsz xsd xct xpa xla xsi xre xcf xfn xrc) 4 [some (.inr (.inl 7)), some (.inl (nI k)), some (.inl (nI (sm (fun x => ltf (tl n B) k x) m) + 1)), some (.inl (nI m + 1))] [] := by
        intro e
        rw [sm, e, nI_succ, nI_succ] at h9
        exact h9
      have no : ltf (tl n B) k m = 0 → Z (CW xfl (nI n) xcap xfs xss xbs xnx xsz xsd xct xpa xla xsi xre xcf xfn xrc) 4 [some (.inr (.inl 7)), some (.inl (nI k)), some (.inl (nI (sm (fun x => ltf (tl n B) k x) m))), some (.inl (nI m + 1))] [] := by
        intro e
        rw [sm, e, Nat.add_zero, nI_succ] at h9
        exact h9
      refine hZ [4] 60 _ _ _ _ ?_
      refine pk_le n m (fun c => absurd c (by omega)) (fun _ => ?_)
      refine And.intro (in12 (by omega)) ?_
      rw [cl12 (by omega), hla.2 m hm0 hm]
      refine And.intro (in12 (by omega)) ?_
      rw [cl12 (by omega), hla.2 k hk0 hk]
      refine pk_lt (tl n B m) (tl n B k) (fun c => ?_) (fun c => ?_)
      · exact yes (if_pos ⟨hm0, Or.inl c⟩)
      · refine And.intro (in12 (by omega)) ?_
        rw [cl12 (by omega), hla.2 m hm0 hm]
        refine And.intro (in12 (by omega)) ?_
        rw [cl12 (by omega), hla.2 k hk0 hk]
        refine And.intro (fun c2 => ?_) (fun c2 => ?_)
        · have c2 : tl n B m ≠ tl n B k := fun e => c2 (by rw [e])
          exact no (if_neg (by omega))
        · have c2 : tl n B m = tl n B k := (nI_eq (by omega) (by omega)).mp c2
          refine pk_le k m (fun c3 => ?_) (fun c3 => ?_)
          · exact no (if_neg (by omega))
          · exact yes (if_pos ⟨hm0, Or.inr ⟨c2, c3⟩⟩)
  refine hZ [4] 40 _ _ _ _ ?_
  have h0 := loop 1 (by omega) (by omega)
  rw [sm, show ltf (tl n B) k 0 = 0 from if_neg (by omega)] at h0
  exact h0
theorem zX1_lighterThan (l : Launch) : zMet l yX1_lighterThan cX1_lighterThan 4 (some .int) rX1_lighterThan kX1_lighterThan := zMet_of (by decide) ⟨rfl, rfl⟩ (oX1_lighterThan l) (fun as0 st0 P h => by
  obtain ⟨xfl, xn, xcap, xfs, xss, xbs, xnx, xsz, xsd, xct, xpa, xla, xsi, xre, xcf, xfn, xrc, n, B, k, a, h0, h1, h2, h3, h4, h5, rfl, rfl, hz⟩ := h
  exact ⟨Nat.le_of_ble_eq_true rfl, fun Z hZ => wX1_lighterThan h0 h1 h2 h3 h4 h5 hz hZ⟩)

/-- nodeAtPlace(a) -/
def kX1_nodeAtPlace : zK := fun as0 st0 P => ∃ xfl : Int32, ∃ xn : Int32, ∃ xcap : Nat → Nat → Int32, ∃ xfs : Nat → Int32, ∃ xss : Nat → Int32, ∃ xbs : Nat → Int32, ∃ xnx : Int32, ∃ xsz : Int32, ∃ xsd : Int32, ∃ xct : Nat → Nat → Int32, ∃ xpa : Nat → Int32, ∃ xla : Nat → Int32, ∃ xsi : Nat → Int32, ∃ xre : Nat → Nat → Int32, ∃ xcf : Nat → Int32, ∃ xfn : Int32, ∃ xrc : Int32, ∃ n : Nat, ∃ B : Nat → Nat → Nat, ∃ a : Int32, (nI n = xn) ∧ (2 ≤ n) ∧ (n ≤ 12) ∧ (cT n xsd xct xpa xla xsi (some B)) ∧ as0 = [.inr (.inl 7), .inl a] ∧ st0 = (CW xfl xn xcap xfs xss xbs xnx xsz xsd xct xpa xla xsi xre xcf xfn xrc) ∧ (P (some (.inl (o2i (fst1 (fun k => decide (nI (ltn n (tl n B) k) = a)) (n - 1) 1)))) (CW xfl xn xcap xfs xss xbs xnx xsz xsd xct xpa xla xsi xre xcf xfn xrc))
def iX1_nodeAtPlace (C0 : zK) : Prop := ∀ {xfl : Int32} {xn : Int32} {xcap : Nat → Nat → Int32} {xfs : Nat → Int32} {xss : Nat → Int32} {xbs : Nat → Int32} {xnx : Int32} {xsz : Int32} {xsd : Int32} {xct : Nat → Nat → Int32} {xpa : Nat → Int32} {xla : Nat → Int32} {xsi : Nat → Int32} {xre : Nat → Nat → Int32} {xcf : Nat → Int32} {xfn : Int32} {xrc : Int32} {n : Nat} {B : Nat → Nat → Nat} {a : Int32} {P : zP}, (nI n = xn) → (2 ≤ n) → (n ≤ 12) → (cT n xsd xct xpa xla xsi (some B)) → (P (some (.inl (o2i (fst1 (fun k => decide (nI (ltn n (tl n B) k) = a)) (n - 1) 1)))) (CW xfl xn xcap xfs xss xbs xnx xsz xsd xct xpa xla xsi xre xcf xfn xrc)) → C0 [.inr (.inl 7), .inl a] ((CW xfl xn xcap xfs xss xbs xnx xsz xsd xct xpa xla xsi xre xcf xfn xrc)) P
theorem eX1_nodeAtPlace : iX1_nodeAtPlace kX1_nodeAtPlace := by
  intro xfl xn xcap xfs xss xbs xnx xsz xsd xct xpa xla xsi xre xcf xfn xrc n B a P h0 h1 h2 h3 hz
  exact ⟨xfl, xn, xcap, xfs, xss, xbs, xnx, xsz, xsd, xct, xpa, xla, xsi, xre, xcf, xfn, xrc, n, B, a, h0, h1, h2, h3, rfl, rfl, hz⟩
theorem oX1_nodeAtPlace (l : Launch) : zOK l RX1 cX1_nodeAtPlace rX1_nodeAtPlace (some .int) (tX1_nodeAtPlace, fX1, gX1, [(123, 1, 1, kX1_lighterThan)], [], 1) := ⟨tX1_nodeAtPlace_ok, fX1_ok, gX1_ok, List.forall_mem_cons.mpr ⟨⟨yX1_lighterThan, cX1_lighterThan, 4, (some .int), rX1_lighterThan, zX1_lighterThan l, by decide +kernel, ykX1_lighterThan, lkX1_123⟩, fun _ h => absurd h List.not_mem_nil⟩, by decide +kernel, rfl⟩
set_option maxRecDepth 100000 in
set_option maxHeartbeats 4000000 in
theorem wX1_nodeAtPlace {CX1_lighterThan : zK} (HX1_lighterThan : iX1_lighterThan CX1_lighterThan) {xfl : Int32} {xn : Int32} {xcap : Nat → Nat → Int32} {xfs : Nat → Int32} {xss : Nat → Int32} {xbs : Nat → Int32} {xnx : Int32} {xsz : Int32} {xsd : Int32} {xct : Nat → Nat → Int32} {xpa : Nat → Int32} {xla : Nat → Int32} {xsi : Nat → Int32} {xre : Nat → Nat → Int32} {xcf : Nat → Int32} {xfn : Int32} {xrc : Int32} {n : Nat} {B : Nat → Nat → Nat} {a : Int32} {P : zP} (hn : nI n = xn) (hn1 : 2 ≤ n) (hn2 : n ≤ 12) (hT : cT n xsd xct xpa xla xsi (some B)) (hp : P (some (.inl (o2i (fst1 (fun k => decide (nI (ltn n (tl n B) k) = a)) (n - 1) 1)))) (CW xfl xn xcap xfs xss xbs xnx xsz xsd xct xpa xla xsi xre xcf xfn xrc)) {Z : zH} (hZ : zcl (tX1_nodeAtPlace, fX1, gX1, [(123, 1, 1, CX1_lighterThan)], [], 1) P Z) : Z ((CW xfl xn xcap xfs xss xbs xnx xsz xsd xct xpa xla xsi xre xcf xfn xrc)) 0 [some (.inr (.inl 7)), some (.inl a), none] [] := by
  subst hn
  have loop : ∀ m, m ≤ n → 0 < m → P (some (.inl (o2i (fst1 (fun k => decide (nI (ltn n (tl n B) k) = a)) (n - m) m)))) (CW xfl (nI n) xcap xfs xss xbs xnx xsz xsd xct xpa xla xsi xre xcf xfn xrc) → Z (CW xfl (nI n) xcap xfs xss xbs xnx xsz xsd xct xpa xla xsi xre xcf xfn xrc) 2 [some (.inr (.inl 7)), some (.inl a), some (.inl (nI m))] [] := by
    refine dn (Q := fun m => 0 < m → P (some (.inl (o2i (fst1 (fun k => decide (nI (ltn n (tl n B) k) = a)) (n - m) m)))) (CW xfl (nI n) xcap xfs xss xbs xnx xsz xsd xct xpa xla xsi xre xcf xfn xrc) → Z (CW xfl (nI n) xcap xfs xss xbs xnx xsz xsd xct xpa xla xsi xre xcf xfn xrc) 2 [some (.inr (.inl 7)), some (.inl a), some (.inl (nI m))] []) ?_ ?_
    · intro _ hP
      rw [Nat.sub_self] at hP
      refine hZ [] 40 _ _ _ _ ?_
      exact pk_le n n (fun _ => hP) (fun c => absurd c (by omega))
    · intro m hm ih hm0 hP
      rw [show n - m = (n - (m + 1)) + 1 by omega, fst1] at hP
      refine hZ [2] 60 _ _ _ _ ?_
      refine pk_le n m (fun c => absurd c (by omega)) (fun _ => ?_)
      refine HX1_lighterThan rfl hn2 hT rfl hm0 hm ?_
      refine And.intro (fun c => ?_) (fun c => ?_)
      · rw [if_neg (by simpa using c)] at hP
        have h9 := ih (by omega) hP
        rw [nI_succ] at h9
        exact h9
      · rw [if_pos (by simpa using c)] at hP
        exact hP
  refine hZ [2] 40 _ _ _ _ ?_
  exact loop 1 (by omega) (by omega) hp
theorem zX1_nodeAtPlace (l : Launch) : zMet l yX1_nodeAtPlace cX1_nodeAtPlace 3 (some .int) rX1_nodeAtPlace kX1_nodeAtPlace := zMet_of (by decide) ⟨rfl, rfl⟩ (oX1_nodeAtPlace l) (fun as0 st0 P h => by
  obtain ⟨xfl, xn, xcap, xfs, xss, xbs, xnx, xsz, xsd, xct, xpa, xla, xsi, xre, xcf, xfn, xrc, n, B, a, h0, h1, h2, h3, rfl, rfl, hz⟩ := h
  exact ⟨Nat.le_of_ble_eq_true rfl, fun Z hZ => wX1_nodeAtPlace eX1_lighterThan h0 h1 h2 h3 hz hZ⟩)

/-- labelsBelow(l) -/
def kX1_labelsBelow : zK := fun as0 st0 P => ∃ xfl : Int32, ∃ xn : Int32, ∃ xcap : Nat → Nat → Int32, ∃ xfs : Nat → Int32, ∃ xss : Nat → Int32, ∃ xbs : Nat → Int32, ∃ xnx : Int32, ∃ xsz : Int32, ∃ xsd : Int32, ∃ xct : Nat → Nat → Int32, ∃ xpa : Nat → Int32, ∃ xla : Nat → Int32, ∃ xsi : Nat → Int32, ∃ xre : Nat → Nat → Int32, ∃ xcf : Nat → Int32, ∃ xfn : Int32, ∃ xrc : Int32, ∃ n : Nat, ∃ B : Nat → Nat → Nat, ∃ l : Nat, ∃ a : Int32, (nI n = xn) ∧ (2 ≤ n) ∧ (n ≤ 12) ∧ (cT n xsd xct xpa xla xsi (some B)) ∧ (a = nI l) ∧ (l < 2 ^ 31) ∧ as0 = [.inr (.inl 7), .inl a] ∧ st0 = (CW xfl xn xcap xfs xss xbs xnx xsz xsd xct xpa xla xsi xre xcf xfn xrc) ∧ (P (some (.inl (nI (lbn n (tl n B) l)))) (CW xfl xn xcap xfs xss xbs xnx xsz xsd xct xpa xla xsi xre xcf xfn xrc))
def iX1_labelsBelow (C0 : zK) : Prop := ∀ {xfl : Int32} {xn : Int32} {xcap : Nat → Nat → Int32} {xfs : Nat → Int32} {xss : Nat → Int32} {xbs : Nat → Int32} {xnx : Int32} {xsz : Int32} {xsd : Int32} {xct : Nat → Nat → Int32} {xpa : Nat → Int32} {xla : Nat → Int32} {xsi : Nat → Int32} {xre : Nat → Nat → Int32} {xcf : Nat → Int32} {xfn : Int32} {xrc : Int32} {n : Nat} {B : Nat → Nat → Nat} {l : Nat} {a : Int32} {P : zP}, (nI n = xn) → (2 ≤ n) → (n ≤ 12) → (cT n xsd xct xpa xla xsi (some B)) → (a = nI l) → (l < 2 ^ 31) → (P (some (.inl (nI (lbn n (tl n B) l)))) (CW xfl xn xcap xfs xss xbs xnx xsz xsd xct xpa xla xsi xre xcf xfn xrc)) → C0 [.inr (.inl 7), .inl a] ((CW xfl xn xcap xfs xss xbs xnx xsz xsd xct xpa xla xsi xre xcf xfn xrc)) P
theorem eX1_labelsBelow : iX1_labelsBelow kX1_labelsBelow := by
  intro xfl xn xcap xfs xss xbs xnx xsz xsd xct xpa xla xsi xre xcf xfn xrc n B l a P h0 h1 h2 h3 h4 h5 hz
  exact ⟨xfl, xn, xcap, xfs, xss, xbs, xnx, xsz, xsd, xct, xpa, xla, xsi, xre, xcf, xfn, xrc, n, B, l, a, h0, h1, h2, h3, h4, h5, rfl, rfl, hz⟩
theorem oX1_labelsBelow (l : Launch) : zOK l RX1 cX1_labelsBelow rX1_labelsBelow (some .int) (tX1_labelsBelow, fX1, gX1, [], [], 1) := ⟨tX1_labelsBelow_ok, fX1_ok, gX1_ok, fun _ h => absurd h List.not_mem_nil, by decide +kernel, rfl⟩
set_option maxRecDepth 100000 in
set_option maxHeartbeats 4000000 in
theorem wX1_labelsBelow {xfl : Int32} {xn : Int32} {xcap : Nat → Nat → Int32} {xfs : Nat → Int32} {xss : Nat → Int32} {xbs : Nat → Int32} {xnx : Int32} {xsz : Int32} {xsd : Int32} {xct : Nat → Nat → Int32} {xpa : Nat → Int32} {xla : Nat → Int32} {xsi : Nat → Int32} {xre : Nat → Nat → Int32} {xcf : Nat → Int32} {xfn : Int32} {xrc : Int32} {n : Nat} {B : Nat → Nat → Nat} {l : Nat} {a : Int32} {P : zP} (hn : nI n = xn) (hn1 : 2 ≤ n) (hn2 : n ≤ 12) (hT : cT n xsd xct xpa xla xsi (some B)) (ha : a = nI l) (hl : l < 2 ^ 31) (hp : P (some (.inl (nI (lbn n (tl n B) l)))) (CW xfl xn xcap xfs xss xbs xnx xsz xsd xct xpa xla xsi xre xcf xfn xrc)) {Z : zH} (hZ : zcl (tX1_labelsBelow, fX1, gX1, [], [], 1) P Z) : Z ((CW xfl xn xcap xfs xss xbs xnx xsz xsd xct xpa xla xsi xre xcf xfn xrc)) 0 [some (.inr (.inl 7)), some (.inl a), none, none] [] := by
  subst ha hn
  obtain ⟨-, hB, -, -, hla, hsi⟩ := cT_some hT
  have loop : ∀ m, m ≤ n → 0 < m → Z (CW xfl (nI n) xcap xfs xss xbs xnx xsz xsd xct xpa xla xsi xre xcf xfn xrc) 4 [some (.inr (.inl 7)), some (.inl (nI l)), some (.inl (nI (sm (fun x => lbf (tl n B) l x) m))), some (.inl (nI m))] [] := by
    refine dn (Q := fun m => 0 < m → Z (CW xfl (nI n) xcap xfs xss xbs xnx xsz xsd xct xpa xla xsi xre xcf xfn xrc) 4 [some (.inr (.inl 7)), some (.inl (nI l)), some (.inl (nI (sm (fun x => lbf (tl n B) l x) m))), some (.inl (nI m))] []) ?_ ?_
    · intro _
      refine hZ [] 40 _ _ _ _ ?_
      exact pk_le n n (fun _ => hp) (fun c => absurd c (by omega))
    · intro m hm ih hm0
      have h9 := ih (by omega)
      have hlm := tl_le hB.1 hn2 m
      refine hZ [4] 60 _ _ _ _ ?_
      refine pk_le n m (fun c => absurd c (by omega)) (fun _ => ?_)
      refine And.intro (in12 (by omega)) ?_
      rw [cl12 (by omega), hla.2 m hm0 hm]
      refine pk_le l (tl n B m) (fun c => ?_) (fun c => ?_)
      · rw [sm, show lbf (tl n B) l m = 0 from if_neg (by omega), Nat.add_zero, nI_succ] at h9
        exact h9
      · rw [sm, show lbf (tl n B) l m = 1 from if_pos ⟨hm0, c⟩, nI_succ, nI_succ] at h9
        exact h9
  refine hZ [4] 40 _ _ _ _ ?_
  have h0 := loop 1 (by omega) (by omega)
  rw [sm, show lbf (tl n B) l 0 = 0 from if_neg (by omega)] at h0
  exact h0
theorem zX1_labelsBelow (l : Launch) : zMet l yX1_labelsBelow cX1_labelsBelow 4 (some .int) rX1_labelsBelow kX1_labelsBelow := zMet_of (by decide) ⟨rfl, rfl⟩ (oX1_labelsBelow l) (fun as0 st0 P h => by
  obtain ⟨xfl, xn, xcap, xfs, xss, xbs, xnx, xsz, xsd, xct, xpa, xla, xsi, xre, xcf, xfn, xrc, n, B, l, a, h0, h1, h2, h3, h4, h5, rfl, rfl, hz⟩ := h
  exact ⟨Nat.le_of_ble_eq_true rfl, fun Z hZ => wX1_labelsBelow h0 h1 h2 h3 h4 h5 hz hZ⟩)

/-- nodesTiedTo(u, l) -/
def kX1_nodesTiedTo : zK := fun as0 st0 P => ∃ xfl : Int32, ∃ xn : Int32, ∃ xcap : Nat → Nat → Int32, ∃ xfs : Nat → Int32, ∃ xss : Nat → Int32, ∃ xbs : Nat → Int32, ∃ xnx : Int32, ∃ xsz : Int32, ∃ xsd : Int32, ∃ xct : Nat → Nat → Int32, ∃ xpa : Nat → Int32, ∃ xla : Nat → Int32, ∃ xsi : Nat → Int32, ∃ xre : Nat → Nat → Int32, ∃ xcf : Nat → Int32, ∃ xfn : Int32, ∃ xrc : Int32, ∃ n : Nat, ∃ B : Nat → Nat → Nat, ∃ u : Nat, ∃ l : Nat, ∃ a : Int32, ∃ b : Int32, (nI n = xn) ∧ (2 ≤ n) ∧ (n ≤ 12) ∧ (cT n xsd xct xpa xla xsi (some B)) ∧ (a = nI u) ∧ (b = nI l) ∧ (u < n) ∧ (l < 2 ^ 31) ∧ as0 = [.inr (.inl 7), .inl a, .inl b] ∧ st0 = (CW xfl xn xcap xfs xss xbs xnx xsz xsd xct xpa xla xsi xre xcf xfn xrc) ∧ (P (some (.inl (nI (cls0 n (tp n B) (tl n B) l u n)))) (CW xfl xn xcap xfs xss xbs xnx xsz xsd xct xpa xla xsi xre xcf xfn xrc))
def iX1_nodesTiedTo (C0 : zK) : Prop := ∀ {xfl : Int32} {xn : Int32} {xcap : Nat → Nat → Int32} {xfs : Nat → Int32} {xss : Nat → Int32} {xbs : Nat → Int32} {xnx : Int32} {xsz : Int32} {xsd : Int32} {xct : Nat → Nat → Int32} {xpa : Nat → Int32} {xla : Nat → Int32} {xsi : Nat → Int32} {xre : Nat → Nat → Int32} {xcf : Nat → Int32} {xfn : Int32} {xrc : Int32} {n : Nat} {B : Nat → Nat → Nat} {u : Nat} {l : Nat} {a : Int32} {b : Int32} {P : zP}, (nI n = xn) → (2 ≤ n) → (n ≤ 12) → (cT n xsd xct xpa xla xsi (some B)) → (a = nI u) → (b = nI l) → (u < n) → (l < 2 ^ 31) → (P (some (.inl (nI (cls0 n (tp n B) (tl n B) l u n)))) (CW xfl xn xcap xfs xss xbs xnx xsz xsd xct xpa xla xsi xre xcf xfn xrc)) → C0 [.inr (.inl 7), .inl a, .inl b] ((CW xfl xn xcap xfs xss xbs xnx xsz xsd xct xpa xla xsi xre xcf xfn xrc)) P
theorem eX1_nodesTiedTo : iX1_nodesTiedTo kX1_nodesTiedTo := by
  intro xfl xn xcap xfs xss xbs xnx xsz xsd xct xpa xla xsi xre xcf xfn xrc n B u l a b P h0 h1 h2 h3 h4 h5 h6 h7 hz
  exact ⟨xfl, xn, xcap, xfs, xss, xbs, xnx, xsz, xsd, xct, xpa, xla, xsi, xre, xcf, xfn, xrc, n, B, u, l, a, b, h0, h1, h2, h3, h4, h5, h6, h7, rfl, rfl, hz⟩
theorem oX1_nodesTiedTo (l : Launch) : zOK l RX1 cX1_nodesTiedTo rX1_nodesTiedTo (some .int) (tX1_nodesTiedTo, fX1, gX1, [(89, 1, 101, kX4_only), (98, 2, 1, kX1_leastLabel)], [], 1) := ⟨tX1_nodesTiedTo_ok, fX1_ok, gX1_ok, List.forall_mem_cons.mpr ⟨⟨yX4_only, cX4_only, 1, (some .int), rX4_only, zX4_only l, by decide +kernel, ykX4_only, lkX1_89⟩, List.forall_mem_cons.mpr ⟨⟨yX1_leastLabel, cX1_leastLabel, 5, (some .int), rX1_leastLabel, zX1_leastLabel l, by decide +kernel, ykX1_leastLabel, lkX1_98⟩, fun _ h => absurd h List.not_mem_nil⟩⟩, by decide +kernel, rfl⟩
set_option maxRecDepth 100000 in
set_option maxHeartbeats 4000000 in
theorem wX1_nodesTiedTo {CX4_only : zK} (HX4_only : iX4_only CX4_only) {CX1_leastLabel : zK} (HX1_leastLabel : iX1_leastLabel CX1_leastLabel) {xfl : Int32} {xn : Int32} {xcap : Nat → Nat → Int32} {xfs : Nat → Int32} {xss : Nat → Int32} {xbs : Nat → Int32} {xnx : Int32} {xsz : Int32} {xsd : Int32} {xct : Nat → Nat → Int32} {xpa : Nat → Int32} {xla : Nat → Int32} {xsi : Nat → Int32} {xre : Nat → Nat → Int32} {xcf : Nat → Int32} {xfn : Int32} {xrc : Int32} {n : Nat} {B : Nat → Nat → Nat} {u : Nat} {l : Nat} {a : Int32} {b : Int32} {P : zP} (hn : nI n = xn) (hn1 : 2 ≤ n) (hn2 : n ≤ 12) (hT : cT n xsd xct xpa xla xsi (some B)) (ha : a = nI u) (hb : b = nI l) (hu : u < n) (hl : l < 2 ^ 31) (hp : P (some (.inl (nI (cls0 n (tp n B) (tl n B) l u n)))) (CW xfl xn xcap xfs xss xbs xnx xsz xsd xct xpa xla xsi xre xcf xfn xrc)) {Z : zH} (hZ : zcl (tX1_nodesTiedTo, fX1, gX1, [(89, 1, 101, CX4_only), (98, 2, 1, CX1_leastLabel)], [], 1) P Z) : Z ((CW xfl xn xcap xfs xss xbs xnx xsz xsd xct xpa xla xsi xre xcf xfn xrc)) 0 [some (.inr (.inl 7)), some (.inl a), some (.inl b), none, none] [] := by
  subst ha hb hn
  obtain ⟨-, hB, -, -, hla, hsi⟩ := cT_some hT
  have loop : ∀ m, m ≤ n → Z (CW xfl (nI n) xcap xfs xss xbs xnx xsz xsd xct xpa xla xsi xre xcf xfn xrc) 8 [some (.inr (.inl 7)), some (.inl (nI u)), some (.inl (nI l)), some (.inl (nI (cls0 n (tp n B) (tl n B) l u m))), some (.inl (nI m))] [] := by
    refine dn (Q := fun m => Z (CW xfl (nI n) xcap xfs xss xbs xnx xsz xsd xct xpa xla xsi xre xcf xfn xrc) 8 [some (.inr (.inl 7)), some (.inl (nI u)), some (.inl (nI l)), some (.inl (nI (cls0 n (tp n B) (tl n B) l u m))), some (.inl (nI m))] []) ?_ ?_
    · refine hZ [] 40 _ _ _ _ ?_
      exact pk_le n n (fun _ => hp) (fun c => absurd c (by omega))
    · intro m hm h9
      have no : clf n (tp n B) (tl n B) l u m = false → Z (CW xfl (nI n) xcap xfs xss xbs xnx xsz xsd xct xpa xla xsi xre xcf xfn xrc) 8 [some (.inr (.inl 7)), some (.inl (nI u)), some (.inl (nI l)), some (.inl (nI (cls0 n (tp n B) (tl n B) l u m))), some (.inl (nI m + 1))] [] := by
        intro e
        rw [cls0, bset, e, if_neg (by decide), Nat.or_zero, nI_succ] at h9
        exact h9
      refine hZ [8] 60 _ _ _ _ ?_
      refine pk_le n m (fun c => absurd c (by omega)) (fun _ => ?_)
      refine pk_eq m u (fun c => ?_) (fun c => ?_)
      · exact no (by simp [clf, c])
      · have hlm := lm_le (n := n) (p := tp n B) (tl_le hB.1 hn2) u m
        refine HX1_leastLabel rfl hn2 hT rfl rfl hu hm (Ne.symm c) ?_
        refine pk_lt (lm n (tp n B) (tl n B) u m) l (fun c2 => ?_) (fun c2 => ?_)
        · exact no (by simp [clf]; omega)
        · refine HX4_only rfl (by omega) ?_
          have e : clf n (tp n B) (tl n B) l u m = true := by simp [clf, c, c2]
          rw [cls0, bset, e, if_pos rfl, ← Nat.or_assoc, ← bI_or, nI_succ] at h9
          exact h9
  refine hZ [8] 40 _ _ _ _ ?_
  refine HX4_only rfl (by omega) ?_
  have h0 := loop 0 (by omega)
  rw [cls0, bset, Nat.or_zero] at h0
  exact h0
theorem zX1_nodesTiedTo (l : Launch) : zMet l yX1_nodesTiedTo cX1_nodesTiedTo 5 (some .int) rX1_nodesTiedTo kX1_nodesTiedTo := zMet_of (by decide) ⟨rfl, rfl⟩ (oX1_nodesTiedTo l) (fun as0 st0 P h => by
  obtain ⟨xfl, xn, xcap, xfs, xss, xbs, xnx, xsz, xsd, xct, xpa, xla, xsi, xre, xcf, xfn, xrc, n, B, u, l, a, b, h0, h1, h2, h3, h4, h5, h6, h7, rfl, rfl, hz⟩ := h
  exact ⟨Nat.le_of_ble_eq_true rfl, fun Z hZ => wX1_nodesTiedTo eX4_only eX1_leastLabel h0 h1 h2 h3 h4 h5 h6 h7 hz hZ⟩)

/-- how both sides hold a greatest value that may be wanting -/
def mI (o : Option (Nat × Nat)) : Int32 := match o with
  | none => -1
  | some q => nI q.2
theorem mst_le {f : Nat → Nat} {u b : Nat} (h : ∀ k, f k ≤ b) : ∀ m q, mst f u m = some q → q.2 ≤ b
  | 0, q, e => by cases e
  | m + 1, q, e => by
    rw [mst] at e
    split at e
    · exact mst_le h m q e
    · split at e
      · cases e; exact h m
      · rename_i b0 v0 e0
        split at e
        · cases e; exact h m
        · cases e; exact mst_le h m _ e0
/-- nodeTiedMostTo(u) -/
def kX1_nodeTiedMostTo : zK := fun as0 st0 P => ∃ xfl : Int32, ∃ xn : Int32, ∃ xcap : Nat → Nat → Int32, ∃ xfs : Nat → Int32, ∃ xss : Nat → Int32, ∃ xbs : Nat → Int32, ∃ xnx : Int32, ∃ xsz : Int32, ∃ xsd : Int32, ∃ xct : Nat → Nat → Int32, ∃ xpa : Nat → Int32, ∃ xla : Nat → Int32, ∃ xsi : Nat → Int32, ∃ xre : Nat → Nat → Int32, ∃ xcf : Nat → Int32, ∃ xfn : Int32, ∃ xrc : Int32, ∃ n : Nat, ∃ B : Nat → Nat → Nat, ∃ u : Nat, ∃ a : Int32, (nI n = xn) ∧ (2 ≤ n) ∧ (n ≤ 12) ∧ (cT n xsd xct xpa xla xsi (some B)) ∧ (a = nI u) ∧ (u < n) ∧ as0 = [.inr (.inl 7), .inl a] ∧ st0 = (CW xfl xn xcap xfs xss xbs xnx xsz xsd xct xpa xla xsi xre xcf xfn xrc) ∧ (P (some (.inl (o2i ((mst (fun o => lm n (tp n B) (tl n B) u o) u n).map Prod.fst)))) (CW xfl xn xcap xfs xss xbs xnx xsz xsd xct xpa xla xsi xre xcf xfn xrc))
def iX1_nodeTiedMostTo (C0 : zK) : Prop := ∀ {xfl : Int32} {xn : Int32} {xcap : Nat → Nat → Int32} {xfs : Nat → Int32} {xss : Nat → Int32} {xbs : Nat → Int32} {xnx : Int32} {xsz : Int32} {xsd : Int32} {xct : Nat → Nat → Int32} {xpa : Nat → Int32} {xla : Nat → Int32} {xsi : Nat → Int32} {xre : Nat → Nat → Int32} {xcf : Nat → Int32} {xfn : Int32} {xrc : Int32} {n : Nat} {B : Nat → Nat → Nat} {u : Nat} {a : Int32} {P : zP}, (nI n = xn) → (2 ≤ n) → (n ≤ 12) → (cT n xsd xct xpa xla xsi (some B)) → (a = nI u) → (u < n) → (P (some (.inl (o2i ((mst (fun o => lm n (tp n B) (tl n B) u o) u n).map Prod.fst)))) (CW xfl xn xcap xfs xss xbs xnx xsz xsd xct xpa xla xsi xre xcf xfn xrc)) → C0 [.inr (.inl 7), .inl a] ((CW xfl xn xcap xfs xss xbs xnx xsz xsd xct xpa xla xsi xre xcf xfn xrc)) P
theorem eX1_nodeTiedMostTo : iX1_nodeTiedMostTo kX1_nodeTiedMostTo := by
  intro xfl xn xcap xfs xss xbs xnx xsz xsd xct xpa xla xsi xre xcf xfn xrc n B u a P h0 h1 h2 h3 h4 h5 hz
  exact ⟨xfl, xn, xcap, xfs, xss, xbs, xnx, xsz, xsd, xct, xpa, xla, xsi, xre, xcf, xfn, xrc, n, B, u, a, h0, h1, h2, h3, h4, h5, rfl, rfl, hz⟩
theorem oX1_nodeTiedMostTo (l : Launch) : zOK l RX1 cX1_nodeTiedMostTo rX1_nodeTiedMostTo (some .int) (tX1_nodeTiedMostTo, fX1, gX1, [(98, 2, 1, kX1_leastLabel)], [], 1) := ⟨tX1_nodeTiedMostTo_ok, fX1_ok, gX1_ok, List.forall_mem_cons.mpr ⟨⟨yX1_leastLabel, cX1_leastLabel, 5, (some .int), rX1_leastLabel, zX1_leastLabel l, by decide +kernel, ykX1_leastLabel, lkX1_98⟩, fun _ h => absurd h List.not_mem_nil⟩, by decide +kernel, rfl⟩
set_option maxRecDepth 100000 in
set_option maxHeartbeats 4000000 in
theorem wX1_nodeTiedMostTo {CX1_leastLabel : zK} (HX1_leastLabel : iX1_leastLabel CX1_leastLabel) {xfl : Int32} {xn : Int32} {xcap : Nat → Nat → Int32} {xfs : Nat → Int32} {xss : Nat → Int32} {xbs : Nat → Int32} {xnx : Int32} {xsz : Int32} {xsd : Int32} {xct : Nat → Nat → Int32} {xpa : Nat → Int32} {xla : Nat → Int32} {xsi : Nat → Int32} {xre : Nat → Nat → Int32} {xcf : Nat → Int32} {xfn : Int32} {xrc : Int32} {n : Nat} {B : Nat → Nat → Nat} {u : Nat} {a : Int32} {P : zP} (hn : nI n = xn) (hn1 : 2 ≤ n) (hn2 : n ≤ 12) (hT : cT n xsd xct xpa xla xsi (some B)) (ha : a = nI u) (hu : u < n) (hp : P (some (.inl (o2i ((mst (fun o => lm n (tp n B) (tl n B) u o) u n).map Prod.fst)))) (CW xfl xn xcap xfs xss xbs xnx xsz xsd xct xpa xla xsi xre xcf xfn xrc)) {Z : zH} (hZ : zcl (tX1_nodeTiedMostTo, fX1, gX1, [(98, 2, 1, CX1_leastLabel)], [], 1) P Z) : Z ((CW xfl xn xcap xfs xss xbs xnx xsz xsd xct xpa xla xsi xre xcf xfn xrc)) 0 [some (.inr (.inl 7)), some (.inl a), none, none, none] [] := by
  subst ha hn
  obtain ⟨-, hB, -, -, hla, hsi⟩ := cT_some hT
  have hlm := lm_le (n := n) (p := tp n B) (tl_le hB.1 hn2) u
  have loop : ∀ m, m ≤ n → Z (CW xfl (nI n) xcap xfs xss xbs xnx xsz xsd xct xpa xla xsi xre xcf xfn xrc) 8 [some (.inr (.inl 7)), some (.inl (nI u)), some (.inl (o2i ((mst (fun o => lm n (tp n B) (tl n B) u o) u m).map Prod.fst))), some (.inl (mI (mst (fun o => lm n (tp n B) (tl n B) u o) u m))), some (.inl (nI m))] [] := by
    refine dn (Q := fun m => Z (CW xfl (nI n) xcap xfs xss xbs xnx xsz xsd xct xpa xla xsi xre xcf xfn xrc) 8 [some (.inr (.inl 7)), some (.inl (nI u)), some (.inl (o2i ((mst (fun o => lm n (tp n B) (tl n B) u o) u m).map Prod.fst))), some (.inl (mI (mst (fun o => lm n (tp n B) (tl n B) u o) u m))), some (.inl (nI m))] []) ?_ ?_
    · refine hZ [] 40 _ _ _ _ ?_
      exact pk_le n n (fun _ => hp) (fun c => absurd c (by omega))
    · intro m hm h9
      rw [nI_succ] at h9
      refine hZ [8] 60 _ _ _ _ ?_
      refine pk_le n m (fun c => absurd c (by omega)) (fun _ => ?_)
      refine pk_eq m u (fun c => ?_) (fun c => ?_)
      · rw [mst, if_pos c] at h9
        exact h9
      · rw [mst, if_neg c] at h9
        have hm2 := hlm m
        refine HX1_leastLabel rfl hn2 hT rfl rfl hu hm (Ne.symm c) ?_
        cases e : mst (fun o => lm n (tp n B) (tl n B) u o) u m with
        | none =>
          rw [e] at h9
          refine And.intro (fun c2 => ?_) (fun _ => ?_)
          · exfalso
            have c3 := Int32.le_iff_toInt_le.mp c2
            rw [nI_toInt (by omega)] at c3
            have : (mI none).toInt = -1 := by decide
            rw [this] at c3
            omega
          · refine HX1_leastLabel rfl hn2 hT rfl rfl hu hm (Ne.symm c) ?_
            exact h9
        | some q =>
          obtain ⟨b, v⟩ := q
          have hv := mst_le hlm m _ e
          rw [e] at h9
          dsimp only at h9 hv
          refine pk_le (lm n (tp n B) (tl n B) u m) v (fun c2 => ?_) (fun c2 => ?_)
          · rw [if_neg (by omega)] at h9
            exact h9
          · rw [if_pos c2] at h9
            refine HX1_leastLabel rfl hn2 hT rfl rfl hu hm (Ne.symm c) ?_
            exact h9
  refine hZ [8] 40 _ _ _ _ ?_
  exact loop 0 (by omega)
theorem zX1_nodeTiedMostTo (l : Launch) : zMet l yX1_nodeTiedMostTo cX1_nodeTiedMostTo 5 (some .int) rX1_nodeTiedMostTo kX1_nodeTiedMostTo := zMet_of (by decide) ⟨rfl, rfl⟩ (oX1_nodeTiedMostTo l) (fun as0 st0 P h => by
  obtain ⟨xfl, xn, xcap, xfs, xss, xbs, xnx, xsz, xsd, xct, xpa, xla, xsi, xre, xcf, xfn, xrc, n, B, u, a, h0, h1, h2, h3, h4, h5, rfl, rfl, hz⟩ := h
  exact ⟨Nat.le_of_ble_eq_true rfl, fun Z hZ => wX1_nodeTiedMostTo eX1_leastLabel h0 h1 h2 h3 h4 h5 hz hZ⟩)

/-- the pairs that have been seen -/
def seen (S u v i j : Nat) : Prop := i < j ∧ (i < u ∨ (i = u ∧ j < v)) ∧ sep S i j = true
def oLA (n : Nat) (f : Nat → Nat → Nat) (S u v : Nat) (o : Option Nat) : Prop := match o with
  | none => ∀ i j, j < n → ¬ seen S u v i j
  | some w => (∃ i j, j < n ∧ seen S u v i j ∧ f i j = w) ∧ ∀ i j, j < n → seen S u v i j → w ≤ f i j
theorem oLA_end {n : Nat} {f : Nat → Nat → Nat} (hf : ∀ i j, f i j = f j i) {S v : Nat} {o : Option Nat} (h0 : 0 < S) (h1 : S < 2 ^ n - 1) (h : oLA n f S n v o) : ∃ w, o = some w ∧ isLA n f S w := by
  have key : ∀ u x, u < n → x < n → S.testBit u = true → S.testBit x = false → (seen S n v u x ∧ f u x = f u x) ∨ (seen S n v x u ∧ f x u = f u x) := by
    intro u x hu hx a b
    rcases Nat.lt_trichotomy u x with q | q | q
    · exact Or.inl ⟨⟨q, Or.inl hu, by simp [sep, a, b]⟩, rfl⟩
    · subst q; rw [a] at b; cases b
    · exact Or.inr ⟨⟨q, Or.inl hx, by simp [sep, a, b]⟩, hf x u⟩
  cases o with
  | none =>
    obtain ⟨u, x, a1, a2, a3, a4⟩ := cut_ex h0 h1
    rcases key u x a1 a2 a3 a4 with ⟨q, -⟩ | ⟨q, -⟩
    · exact absurd q (h u x a2)
    · exact absurd q (h x u a1)
  | some w =>
    obtain ⟨⟨i, j, hj, hs, he⟩, hall⟩ := h
    refine ⟨w, rfl, ?_, fun u x a1 a2 a3 a4 => ?_⟩
    · obtain ⟨hij, -, hsep⟩ := hs
      unfold sep at hsep
      cases hi : S.testBit i with
      | true =>
        cases hj2 : S.testBit j with
        | true => rw [hi, hj2] at hsep; cases hsep
        | false => exact ⟨i, j, by omega, hj, hi, hj2, he⟩
      | false =>
        cases hj2 : S.testBit j with
        | false => rw [hi, hj2] at hsep; cases hsep
        | true => exact ⟨j, i, hj, by omega, hj2, hi, by rw [hf]; exact he⟩
    · rcases key u x a1 a2 a3 a4 with ⟨q, -⟩ | ⟨q, e⟩
      · exact hall u x a2 q
      · have := hall x u a1 q; omega
theorem oLA_skip {n : Nat} {f : Nat → Nat → Nat} {S u v : Nat} {o : Option Nat} (h : oLA n f S u v o) (hs : ¬ (u < v ∧ sep S u v = true)) : oLA n f S u (v + 1) o := by
  have e : ∀ i j, seen S u (v + 1) i j ↔ seen S u v i j := fun i j => by
    unfold seen
    constructor
    · rintro ⟨a, b, c⟩
      refine ⟨a, ?_, c⟩
      rcases b with b | ⟨b1, b2⟩
      · exact Or.inl b
      · by_cases q : j = v
        · subst q; subst b1; exact absurd ⟨a, c⟩ hs
        · exact Or.inr ⟨b1, by omega⟩
    · rintro ⟨a, b, c⟩
      exact ⟨a, by omega, c⟩
  cases o with
  | none => exact fun i j hj q => h i j hj ((e i j).mp q)
  | some w =>
    obtain ⟨⟨i, j, a1, a2, a3⟩, b⟩ := h
    exact ⟨⟨i, j, a1, (e i j).mpr a2, a3⟩, fun i j hj q => b i j hj ((e i j).mp q)⟩
theorem oLA_take {n : Nat} {f : Nat → Nat → Nat} {S u v : Nat} {o : Option Nat} (h : oLA n f S u v o) (hv : v < n) (huv : u < v) (hs : sep S u v = true) : oLA n f S u (v + 1) (omin o (some (f u v))) := by
  have new : seen S u (v + 1) u v := ⟨huv, Or.inr ⟨rfl, by omega⟩, hs⟩
  have old : ∀ i j, seen S u (v + 1) i j → seen S u v i j ∨ (i = u ∧ j = v) := fun i j ⟨a, b, c⟩ => by
    rcases b with b | ⟨b1, b2⟩
    · exact Or.inl ⟨a, Or.inl b, c⟩
    · by_cases q : j = v
      · exact Or.inr ⟨b1, q⟩
      · exact Or.inl ⟨a, Or.inr ⟨b1, by omega⟩, c⟩
  have up : ∀ i j, seen S u v i j → seen S u (v + 1) i j := fun i j ⟨a, b, c⟩ => ⟨a, by omega, c⟩
  cases o with
  | none =>
    refine ⟨⟨u, v, hv, new, rfl⟩, fun i j hj q => ?_⟩
    rcases old i j q with q | ⟨rfl, rfl⟩
    · exact absurd q (h i j hj)
    · exact Nat.le_refl _
  | some w =>
    obtain ⟨⟨i, j, a1, a2, a3⟩, b⟩ := h
    show oLA n f S u (v + 1) (some (if f u v < w then f u v else w))
    by_cases c : f u v < w
    · rw [if_pos c]
      refine ⟨⟨u, v, hv, new, rfl⟩, fun i j hj q => ?_⟩
      rcases old i j q with q | ⟨rfl, rfl⟩
      · have := b i j hj q; omega
      · exact Nat.le_refl _
    · rw [if_neg c]
      refine ⟨⟨i, j, a1, up i j a2, a3⟩, fun i j hj q => ?_⟩
      rcases old i j q with q | ⟨rfl, rfl⟩
      · exact b i j hj q
      · omega
theorem oLA_next {n : Nat} {f : Nat → Nat → Nat} {S u : Nat} {o : Option Nat} (h : oLA n f S u n o) : oLA n f S (u + 1) (u + 2) o := by
  have e : ∀ i j, j < n → (seen S (u + 1) (u + 2) i j ↔ seen S u n i j) := fun i j hj => by
    unfold seen
    constructor
    · rintro ⟨a, b, c⟩
      exact ⟨a, by omega, c⟩
    · rintro ⟨a, b, c⟩
      exact ⟨a, by omega, c⟩
  cases o with
  | none => exact fun i j hj q => h i j hj ((e i j hj).mp q)
  | some w =>
    obtain ⟨⟨i, j, a1, a2, a3⟩, b⟩ := h
    exact ⟨⟨i, j, a1, (e i j a1).mpr a2, a3⟩, fun i j hj q => b i j hj ((e i j hj).mp q)⟩
/-- leastLabelAcross(S) -/
def kX1_leastLabelAcross : zK := fun as0 st0 P => ∃ xfl : Int32, ∃ xn : Int32, ∃ xcap : Nat → Nat → Int32, ∃ xfs : Nat → Int32, ∃ xss : Nat → Int32, ∃ xbs : Nat → Int32, ∃ xnx : Int32, ∃ xsz : Int32, ∃ xsd : Int32, ∃ xct : Nat → Nat → Int32, ∃ xpa : Nat → Int32, ∃ xla : Nat → Int32, ∃ xsi : Nat → Int32, ∃ xre : Nat → Nat → Int32, ∃ xcf : Nat → Int32, ∃ xfn : Int32, ∃ xrc : Int32, ∃ n : Nat, ∃ B : Nat → Nat → Nat, ∃ S : Nat, ∃ a : Int32, (nI n = xn) ∧ (2 ≤ n) ∧ (n ≤ 12) ∧ (cT n xsd xct xpa xla xsi (some B)) ∧ (a = nI S) ∧ (0 < S) ∧ (S < 2 ^ n - 1) ∧ as0 = [.inr (.inl 7), .inl a] ∧ st0 = (CW xfl xn xcap xfs xss xbs xnx xsz xsd xct xpa xla xsi xre xcf xfn xrc) ∧ (∀ w, isLA n (lm n (tp n B) (tl n B)) S w → P (some (.inl (nI w))) (CW xfl xn xcap xfs xss xbs xnx xsz xsd xct xpa xla xsi xre xcf xfn xrc))
def iX1_leastLabelAcross (C0 : zK) : Prop := ∀ {xfl : Int32} {xn : Int32} {xcap : Nat → Nat → Int32} {xfs : Nat → Int32} {xss : Nat → Int32} {xbs : Nat → Int32} {xnx : Int32} {xsz : Int32} {xsd : Int32} {xct : Nat → Nat → Int32} {xpa : Nat → Int32} {xla : Nat → Int32} {xsi : Nat → Int32} {xre : Nat → Nat → Int32} {xcf : Nat → Int32} {xfn : Int32} {xrc : Int32} {n : Nat} {B : Nat → Nat → Nat} {S : Nat} {a : Int32} {P : zP}, (nI n = xn) → (2 ≤ n) → (n ≤ 12) → (cT n xsd xct xpa xla xsi (some B)) → (a = nI S) → (0 < S) → (S < 2 ^ n - 1) → (∀ w, isLA n (lm n (tp n B) (tl n B)) S w → P (some (.inl (nI w))) (CW xfl xn xcap xfs xss xbs xnx xsz xsd xct xpa xla xsi xre xcf xfn xrc)) → C0 [.inr (.inl 7), .inl a] ((CW xfl xn xcap xfs xss xbs xnx xsz xsd xct xpa xla xsi xre xcf xfn xrc)) P
theorem eX1_leastLabelAcross : iX1_leastLabelAcross kX1_leastLabelAcross := by
  intro xfl xn xcap xfs xss xbs xnx xsz xsd xct xpa xla xsi xre xcf xfn xrc n B S a P h0 h1 h2 h3 h4 h5 h6 hz
  exact ⟨xfl, xn, xcap, xfs, xss, xbs, xnx, xsz, xsd, xct, xpa, xla, xsi, xre, xcf, xfn, xrc, n, B, S, a, h0, h1, h2, h3, h4, h5, h6, rfl, rfl, hz⟩
theorem oX1_leastLabelAcross (l : Launch) : zOK l RX1 cX1_leastLabelAcross rX1_leastLabelAcross (some .int) (tX1_leastLabelAcross, fX1, gX1, [(108, 3, 101, kX4_separates), (98, 2, 1, kX1_leastLabel)], [(112, 2)], 1) := ⟨tX1_leastLabelAcross_ok, fX1_ok, gX1_ok, List.forall_mem_cons.mpr ⟨⟨yX4_separates, cX4_separates, 3, (some .boolean), rX4_separates, zX4_separates l, by decide +kernel, ykX4_separates, lkX1_108⟩, List.forall_mem_cons.mpr ⟨⟨yX1_leastLabel, cX1_leastLabel, 5, (some .int), rX1_leastLabel, zX1_leastLabel l, by decide +kernel, ykX1_leastLabel, lkX1_98⟩, fun _ h => absurd h List.not_mem_nil⟩⟩, by decide +kernel, rfl⟩
set_option maxRecDepth 100000 in
set_option maxHeartbeats 4000000 in
theorem wX1_leastLabelAcross {CX4_separates : zK} (HX4_separates : iX4_separates CX4_separates) {CX1_leastLabel : zK} (HX1_leastLabel : iX1_leastLabel CX1_leastLabel) {xfl : Int32} {xn : Int32} {xcap : Nat → Nat → Int32} {xfs : Nat → Int32} {xss : Nat → Int32} {xbs : Nat → Int32} {xnx : Int32} {xsz : Int32} {xsd : Int32} {xct : Nat → Nat → Int32} {xpa : Nat → Int32} {xla : Nat → Int32} {xsi : Nat → Int32} {xre : Nat → Nat → Int32} {xcf : Nat → Int32} {xfn : Int32} {xrc : Int32} {n : Nat} {B : Nat → Nat → Nat} {S : Nat} {a : Int32} {P : zP} (hn : nI n = xn) (hn1 : 2 ≤ n) (hn2 : n ≤ 12) (hT : cT n xsd xct xpa xla xsi (some B)) (ha : a = nI S) (hS0 : 0 < S) (hS : S < 2 ^ n - 1) (hp : ∀ w, isLA n (lm n (tp n B) (tl n B)) S w → P (some (.inl (nI w))) (CW xfl xn xcap xfs xss xbs xnx xsz xsd xct xpa xla xsi xre xcf xfn xrc)) {Z : zH} (hZ : zcl (tX1_leastLabelAcross, fX1, gX1, [(108, 3, 101, CX4_separates), (98, 2, 1, CX1_leastLabel)], [(112, 2)], 1) P Z) : Z ((CW xfl xn xcap xfs xss xbs xnx xsz xsd xct xpa xla xsi xre xcf xfn xrc)) 0 [some (.inr (.inl 7)), some (.inl a), none, none, none] [] := by
  subst ha hn
  obtain ⟨-, hB, -, -, hla, hsi⟩ := cT_some hT
  have p12n := p12 hn2
  have hlm := fun i j => lm_le (n := n) (p := tp n B) (tl_le hB.1 hn2) i j
  have ob : ∀ u v o, oLA n (lm n (tp n B) (tl n B)) S u v o → ∀ b, o = some b → b < 2 ^ 31 := fun u v o h b e => by
    subst e
    obtain ⟨⟨i, j, -, -, e⟩, -⟩ := h
    have := hlm i j
    omega
  have outer : ∀ u, u ≤ n → ∀ o o4, oLA n (lm n (tp n B) (tl n B)) S u (u + 1) o → Z (CW xfl (nI n) xcap xfs xss xbs xnx xsz xsd xct xpa xla xsi xre xcf xfn xrc) 5 [some (.inr (.inl 7)), some (.inl (nI S)), some (.inl (cI o)), some (.inl (nI u)), o4] [] := by
    refine dn (Q := fun u => ∀ o o4, oLA n (lm n (tp n B) (tl n B)) S u (u + 1) o → Z (CW xfl (nI n) xcap xfs xss xbs xnx xsz xsd xct xpa xla xsi xre xcf xfn xrc) 5 [some (.inr (.inl 7)), some (.inl (nI S)), some (.inl (cI o)), some (.inl (nI u)), o4] []) ?_ ?_
    · intro o o4 h
      obtain ⟨w, rfl, hw⟩ := oLA_end (lm_sym n (tp n B) (tl n B)) hS0 hS h
      refine hZ [] 40 _ _ _ _ ?_
      exact pk_le n n (fun _ => hp w hw) (fun c => absurd c (by omega))
    · intro u hu ih o o4 h
      have inner : ∀ v, v ≤ n → u < v → ∀ o, oLA n (lm n (tp n B) (tl n B)) S u v o → Z (CW xfl (nI n) xcap xfs xss xbs xnx xsz xsd xct xpa xla xsi xre xcf xfn xrc) 21 [some (.inr (.inl 7)), some (.inl (nI S)), some (.inl (cI o)), some (.inl (nI u)), some (.inl (nI v))] [] := by
        refine dn (Q := fun v => u < v → ∀ o, oLA n (lm n (tp n B) (tl n B)) S u v o → Z (CW xfl (nI n) xcap xfs xss xbs xnx xsz xsd xct xpa xla xsi xre xcf xfn xrc) 21 [some (.inr (.inl 7)), some (.inl (nI S)), some (.inl (cI o)), some (.inl (nI u)), some (.inl (nI v))] []) ?_ ?_
        · intro _ o h
          refine hZ [5] 40 _ _ _ _ ?_
          refine pk_le n n (fun _ => ?_) (fun c => absurd c (by omega))
          have h9 := ih o (some (.inl (nI n))) (oLA_next h)
          rw [nI_succ] at h9
          exact h9
        · intro v hv ih2 huv o h
          refine hZ [21] 60 _ _ _ _ ?_
          refine pk_le n v (fun c => absurd c (by omega)) (fun _ => ?_)
          refine HX4_separates rfl rfl rfl (by omega) (by omega) (by omega) ?_
          refine bz (fun hb => ?_) (fun hb => ?_)
          · have h9 := ih2 (by omega) o (oLA_skip h (fun q => by rw [hb] at q; cases q.2))
            rw [nI_succ] at h9
            exact h9
          · refine HX1_leastLabel rfl hn2 hT rfl rfl hu hv (by omega) ?_
            have hl := hlm u v
            have h9 := ih2 (by omega) _ (oLA_take h hv huv hb)
            rw [nI_succ, ← cI_min (by omega) (ob u v o h)] at h9
            exact h9
      refine hZ [21] 40 _ _ _ _ ?_
      refine pk_le n u (fun c => absurd c (by omega)) (fun _ => ?_)
      have h9 := inner (u + 1) (by omega) (by omega) o h
      rw [nI_succ] at h9
      exact h9
  refine hZ [5] 40 _ _ _ _ ?_
  exact outer 0 (by omega) none none (fun i j _ q => by obtain ⟨a, b, -⟩ := q; omega)
theorem zX1_leastLabelAcross (l : Launch) : zMet l yX1_leastLabelAcross cX1_leastLabelAcross 5 (some .int) rX1_leastLabelAcross kX1_leastLabelAcross := zMet_of (by decide) ⟨rfl, rfl⟩ (oX1_leastLabelAcross l) (fun as0 st0 P h => by
  obtain ⟨xfl, xn, xcap, xfs, xss, xbs, xnx, xsz, xsd, xct, xpa, xla, xsi, xre, xcf, xfn, xrc, n, B, S, a, h0, h1, h2, h3, h4, h5, h6, rfl, rfl, hz⟩ := h
  exact ⟨Nat.le_of_ble_eq_true rfl, fun Z hZ => wX1_leastLabelAcross eX4_separates eX1_leastLabel h0 h1 h2 h3 h4 h5 h6 hz hZ⟩)

