/-! THE KEEPER'S PUBLIC METHODS. -/
/-- reset(k) -/
def kX4_reset : zK := fun as0 st0 P => ∃ σ : zS, ∃ a : AS, ∃ k : Int32, (cSt a σ) ∧ as0 = [.inr (.inl 0), .inl k] ∧ st0 = σ ∧ (∀ r a' σ', rReset k a r a' → cSt a' σ' → P (some (.inl r)) σ')
def iX4_reset (C0 : zK) : Prop := ∀ {σ : zS} {a : AS} {k : Int32} {P : zP}, (cSt a σ) → (∀ r a' σ', rReset k a r a' → cSt a' σ' → P (some (.inl r)) σ') → C0 [.inr (.inl 0), .inl k] (σ) P
theorem eX4_reset : iX4_reset kX4_reset := by
  intro σ a k P h0 hz
  exact ⟨σ, a, k, h0, rfl, rfl, hz⟩
theorem oX4_reset (l : Launch) : zOK l RX4 cX4_reset rX4_reset (some .int) (tX4_reset, fX4, gX4, [(41, 1, 2, kX2_startWith), (44, 0, 0, kX0_forgetAll)], [], 1) := ⟨tX4_reset_ok, fX4_ok, gX4_ok, List.forall_mem_cons.mpr ⟨⟨yX2_startWith, cX2_startWith, 3, none, rX2_startWith, zX2_startWith l, by decide +kernel, ykX2_startWith, lkX4_41⟩, List.forall_mem_cons.mpr ⟨⟨yX0_forgetAll, cX0_forgetAll, 1, none, rX0_forgetAll, zX0_forgetAll l, by decide +kernel, ykX0_forgetAll, lkX4_44⟩, fun _ h => absurd h List.not_mem_nil⟩⟩, by decide +kernel, rfl⟩
set_option maxRecDepth 100000 in
set_option maxHeartbeats 4000000 in
theorem wX4_reset {CX2_startWith : zK} (HX2_startWith : iX2_startWith CX2_startWith) {CX0_forgetAll : zK} (HX0_forgetAll : iX0_forgetAll CX0_forgetAll) {σ : zS} {a : AS} {k : Int32} {P : zP} (hσ : cSt a σ) (hp : ∀ r a' σ', rReset k a r a' → cSt a' σ' → P (some (.inl r)) σ') {Z : zH} (hZ : zcl (tX4_reset, fX4, gX4, [(41, 1, 2, CX2_startWith), (44, 0, 0, CX0_forgetAll)], [], 1) P Z) : Z (σ) 0 [some (.inr (.inl 0)), some (.inl k), none] [] := by
  have hσ0 := hσ
  obtain ⟨n, K, L, F, ob⟩ := a
  obtain ⟨xfl, xn, xcap, xfs, xss, xbs, xnx, xsz, xsd, xct, xpa, xla, xsi, xre, xcf, xfn, xrc, rfl, hG, hR, hF, hT⟩ := hσ
  dsimp only at hG hR hF hT
  refine hZ [] 60 _ _ _ _ ?_
  refine And.intro (fun c => ?_) (fun c => ?_)
  · exact hp _ _ _ (Or.inr ⟨fun q => Int32.not_le.mpr c q.1, rfl, rfl⟩) hσ0
  · refine And.intro (fun c2 => ?_) (fun c2 => ?_)
    · obtain ⟨j, hj, rfl⟩ := nI_of2 (x := k) (M := 12) (n := 12) (by decide) (fun q => c (Int32.lt_trans q (by decide))) c2
      have hj2 : 2 ≤ j := (nI_leI (by omega) (by omega)).mp (show nI 2 ≤ nI j from Int32.not_lt.mp c)
      refine HX2_startWith (fun cap' hc => ?_)
      refine HX0_forgetAll ?_
      refine And.intro (Or.inl rfl) ?_
      exact hp _ _ _ (Or.inl ⟨j, hj2, hj, rfl, hG.1.symm, rfl⟩) (cSt_mk ⟨rfl, hj2, hj, fun x y hx hy => by rw [hc x y hx hy]; rfl, gK_0 j⟩ ⟨0, by omega, rfl, rfl, by simp, fun i e he => by simp at he, fun e he => by cases he⟩ rfl (Or.inl ⟨rfl, rfl⟩))
    · exact hp _ _ _ (Or.inr ⟨fun q => c2 q.2, rfl, rfl⟩) hσ0
theorem zX4_reset (l : Launch) : zMet l yX4_reset cX4_reset 3 (some .int) rX4_reset kX4_reset := zMet_of (by decide) ⟨rfl, rfl⟩ (oX4_reset l) (fun as0 st0 P h => by
  obtain ⟨σ, a, k, h0, rfl, rfl, hz⟩ := h
  exact ⟨Nat.le_of_ble_eq_true rfl, fun Z hZ => wX4_reset eX2_startWith eX0_forgetAll h0 hz hZ⟩)

/-- setCapacity(u, v, c) -/
def kX4_setCapacity : zK := fun as0 st0 P => ∃ σ : zS, ∃ a : AS, ∃ u : Int32, ∃ v : Int32, ∃ c : Int32, (cSt a σ) ∧ as0 = [.inr (.inl 0), .inl u, .inl v, .inl c] ∧ st0 = σ ∧ (∀ r a' σ', rSet u v c a r a' → cSt a' σ' → P (some (.inl r)) σ')
def iX4_setCapacity (C0 : zK) : Prop := ∀ {σ : zS} {a : AS} {u : Int32} {v : Int32} {c : Int32} {P : zP}, (cSt a σ) → (∀ r a' σ', rSet u v c a r a' → cSt a' σ' → P (some (.inl r)) σ') → C0 [.inr (.inl 0), .inl u, .inl v, .inl c] (σ) P
theorem eX4_setCapacity : iX4_setCapacity kX4_setCapacity := by
  intro σ a u v c P h0 hz
  exact ⟨σ, a, u, v, c, h0, rfl, rfl, hz⟩
theorem oX4_setCapacity (l : Launch) : zOK l RX4 cX4_setCapacity rX4_setCapacity (some .int) (tX4_setCapacity, fX4, gX4, [(51, 2, 4, kX4_pairError), (55, 2, 2, kX2_between), (58, 3, 0, kX0_remember), (62, 3, 2, kX2_put)], [], 1) := ⟨tX4_setCapacity_ok, fX4_ok, gX4_ok, List.forall_mem_cons.mpr ⟨⟨yX4_pairError, cX4_pairError, 3, (some .int), rX4_pairError, zX4_pairError l, by decide +kernel, ykX4_pairError, lkX4_51⟩, List.forall_mem_cons.mpr ⟨⟨yX2_between, cX2_between, 3, (some .int), rX2_between, zX2_between l, by decide +kernel, ykX2_between, lkX4_55⟩, List.forall_mem_cons.mpr ⟨⟨yX0_remember, cX0_remember, 5, none, rX0_remember, zX0_remember l, by decide +kernel, ykX0_remember, lkX4_58⟩, List.forall_mem_cons.mpr ⟨⟨yX2_put, cX2_put, 4, none, rX2_put, zX2_put l, by decide +kernel, ykX2_put, lkX4_62⟩, fun _ h => absurd h List.not_mem_nil⟩⟩⟩⟩, by decide +kernel, rfl⟩
set_option maxRecDepth 100000 in
set_option maxHeartbeats 4000000 in
theorem wX4_setCapacity {CX4_pairError : zK} (HX4_pairError : iX4_pairError CX4_pairError) {CX2_between : zK} (HX2_between : iX2_between CX2_between) {CX0_remember : zK} (HX0_remember : iX0_remember CX0_remember) {CX2_put : zK} (HX2_put : iX2_put CX2_put) {σ : zS} {a : AS} {u : Int32} {v : Int32} {c : Int32} {P : zP} (hσ : cSt a σ) (hp : ∀ r a' σ', rSet u v c a r a' → cSt a' σ' → P (some (.inl r)) σ') {Z : zH} (hZ : zcl (tX4_setCapacity, fX4, gX4, [(51, 2, 4, CX4_pairError), (55, 2, 2, CX2_between), (58, 3, 0, CX0_remember), (62, 3, 2, CX2_put)], [], 1) P Z) : Z (σ) 0 [some (.inr (.inl 0)), some (.inl u), some (.inl v), some (.inl c), none, none] [] := by
  have hσ0 := hσ
  obtain ⟨n, K, L, F, ob⟩ := a
  obtain ⟨xfl, xn, xcap, xfs, xss, xbs, xnx, xsz, xsd, xct, xpa, xla, xsi, xre, xcf, xfn, xrc, rfl, hG, hR, hF, hT⟩ := hσ
  dsimp only at hG hR hF hT
  have hn2 := hG.2.2.1
  refine hZ [] 60 _ _ _ _ ?_
  refine HX4_pairError hG.1 ?_
  rcases pe_spec hn2 u v with e | ⟨e, i, j, hi, hj, hij, rfl, rfl⟩
  · refine And.intro (fun c => absurd c e) (fun _ => ?_)
    exact hp _ _ _ (Or.inl ⟨e, rfl, rfl⟩) hσ0
  · refine And.intro (fun _ => ?_) (fun c => absurd e c)
    refine And.intro (fun c1 => ?_) (fun c1 => ?_)
    · exact hp _ _ _ (Or.inr (Or.inl ⟨e, fun q => Int32.not_le.mpr c1 q.1, rfl, rfl⟩)) hσ0
    · refine And.intro (fun c2 => ?_) (fun c2 => ?_)
      · obtain ⟨w, hw, rfl⟩ := nI_of2 (x := c) (M := 999) (n := 999) (by decide) c1 c2
        have hk := hG.2.2.2.2.1 i j
        refine HX2_between rfl rfl (by omega) (by omega) ?_
        rw [hG.2.2.2.1 i j (by omega) (by omega)]
        refine HX0_remember hR rfl rfl rfl hi hj hij hk (fun fs' ss' bs' nx' sz' hR' => ?_)
        refine HX2_put hG.1 hn2 rfl rfl hi hj (fun cap' hc => ?_)
        exact hp _ _ _ (Or.inr (Or.inr ⟨i, j, w, ⟨hi, hj, hij, rfl, rfl⟩, hw, rfl, rfl, rfl⟩)) (cSt_mk (cG_put hG hi hj hij hw rfl hc) hR' hF hT)
      · exact hp _ _ _ (Or.inr (Or.inl ⟨e, fun q => c2 q.2, rfl, rfl⟩)) hσ0
theorem zX4_setCapacity (l : Launch) : zMet l yX4_setCapacity cX4_setCapacity 6 (some .int) rX4_setCapacity kX4_setCapacity := zMet_of (by decide) ⟨rfl, rfl⟩ (oX4_setCapacity l) (fun as0 st0 P h => by
  obtain ⟨σ, a, u, v, c, h0, rfl, rfl, hz⟩ := h
  exact ⟨Nat.le_of_ble_eq_true rfl, fun Z hZ => wX4_setCapacity eX4_pairError eX2_between eX0_remember eX2_put h0 hz hZ⟩)

/-- undo() -/
def kX4_undo : zK := fun as0 st0 P => ∃ σ : zS, ∃ a : AS, (cSt a σ) ∧ as0 = [.inr (.inl 0)] ∧ st0 = σ ∧ (∀ r a' σ', rUndo a r a' → cSt a' σ' → P (some (.inl r)) σ')
def iX4_undo (C0 : zK) : Prop := ∀ {σ : zS} {a : AS} {P : zP}, (cSt a σ) → (∀ r a' σ', rUndo a r a' → cSt a' σ' → P (some (.inl r)) σ') → C0 [.inr (.inl 0)] (σ) P
theorem eX4_undo : iX4_undo kX4_undo := by
  intro σ a P h0 hz
  exact ⟨σ, a, h0, rfl, rfl, hz⟩
theorem oX4_undo (l : Launch) : zOK l RX4 cX4_undo rX4_undo (some .int) (tX4_undo, fX4, gX4, [(68, 1, 0, kX0_takeBackLatest)], [], 1) := ⟨tX4_undo_ok, fX4_ok, gX4_ok, List.forall_mem_cons.mpr ⟨⟨yX0_takeBackLatest, cX0_takeBackLatest, 3, none, rX0_takeBackLatest, zX0_takeBackLatest l, by decide +kernel, ykX0_takeBackLatest, lkX4_68⟩, fun _ h => absurd h List.not_mem_nil⟩, by decide +kernel, rfl⟩
set_option maxRecDepth 100000 in
set_option maxHeartbeats 4000000 in
theorem wX4_undo {CX0_takeBackLatest : zK} (HX0_takeBackLatest : iX0_takeBackLatest CX0_takeBackLatest) {σ : zS} {a : AS} {P : zP} (hσ : cSt a σ) (hp : ∀ r a' σ', rUndo a r a' → cSt a' σ' → P (some (.inl r)) σ') {Z : zH} (hZ : zcl (tX4_undo, fX4, gX4, [(68, 1, 0, CX0_takeBackLatest)], [], 1) P Z) : Z (σ) 0 [some (.inr (.inl 0))] [] := by
  have hσ0 := hσ
  obtain ⟨n, K, L, F, ob⟩ := a
  obtain ⟨xfl, xn, xcap, xfs, xss, xbs, xnx, xsz, xsd, xct, xpa, xla, xsi, xre, xcf, xfn, xrc, rfl, hG, hR, hF, hT⟩ := hσ
  dsimp only at hG hR hF hT
  have hn2 := hG.2.2.1
  have hR0 := hR
  obtain ⟨q, hq, hnx, hsz, hl, h1, h2⟩ := hR
  refine hZ [] 60 _ _ _ _ ?_
  cases L with
  | nil =>
    refine And.intro (fun c => absurd hsz.symm c) (fun _ => ?_)
    exact hp _ _ _ (Or.inl ⟨rfl, rfl, rfl⟩) hσ0
  | cons e L =>
    obtain ⟨i, j, w⟩ := e
    obtain ⟨hi, hj, hij, hw⟩ := h2 _ List.mem_cons_self
    dsimp only at hi hj hij hw
    refine And.intro (fun _ => ?_) (fun c => absurd (hsz.trans c) (nI_ne0 (by simp) (by omega)))
    refine HX0_takeBackLatest hR0 hG.1 hn2 (fun cap' nx' sz' hc hR' => ?_)
    obtain ⟨q', -, -, hsz', -⟩ := hR'.choose_spec
    have hs2 : nI L.length = sz' := by
      obtain ⟨_, _, _, hh, _⟩ := hR'
      exact hh
    exact hp _ _ _ (Or.inr ⟨i, j, w, L, rfl, hs2.symm, rfl⟩) (cSt_mk (cG_put hG hi hj hij hw rfl hc) hR' hF hT)
theorem zX4_undo (l : Launch) : zMet l yX4_undo cX4_undo 1 (some .int) rX4_undo kX4_undo := zMet_of (by decide) ⟨rfl, rfl⟩ (oX4_undo l) (fun as0 st0 P h => by
  obtain ⟨σ, a, h0, rfl, rfl, hz⟩ := h
  exact ⟨Nat.le_of_ble_eq_true rfl, fun Z hZ => wX4_undo eX0_takeBackLatest h0 hz hZ⟩)

/-- capacity(u, v) -/
def kX4_capacity : zK := fun as0 st0 P => ∃ σ : zS, ∃ a : AS, ∃ u : Int32, ∃ v : Int32, (cSt a σ) ∧ as0 = [.inr (.inl 0), .inl u, .inl v] ∧ st0 = σ ∧ (∀ r a' σ', rCap u v a r a' → cSt a' σ' → P (some (.inl r)) σ')
def iX4_capacity (C0 : zK) : Prop := ∀ {σ : zS} {a : AS} {u : Int32} {v : Int32} {P : zP}, (cSt a σ) → (∀ r a' σ', rCap u v a r a' → cSt a' σ' → P (some (.inl r)) σ') → C0 [.inr (.inl 0), .inl u, .inl v] (σ) P
theorem eX4_capacity : iX4_capacity kX4_capacity := by
  intro σ a u v P h0 hz
  exact ⟨σ, a, u, v, h0, rfl, rfl, hz⟩
theorem oX4_capacity (l : Launch) : zOK l RX4 cX4_capacity rX4_capacity (some .int) (tX4_capacity, fX4, gX4, [(51, 2, 4, kX4_pairError), (55, 2, 2, kX2_between)], [], 1) := ⟨tX4_capacity_ok, fX4_ok, gX4_ok, List.forall_mem_cons.mpr ⟨⟨yX4_pairError, cX4_pairError, 3, (some .int), rX4_pairError, zX4_pairError l, by decide +kernel, ykX4_pairError, lkX4_51⟩, List.forall_mem_cons.mpr ⟨⟨yX2_between, cX2_between, 3, (some .int), rX2_between, zX2_between l, by decide +kernel, ykX2_between, lkX4_55⟩, fun _ h => absurd h List.not_mem_nil⟩⟩, by decide +kernel, rfl⟩
set_option maxRecDepth 100000 in
set_option maxHeartbeats 4000000 in
theorem wX4_capacity {CX4_pairError : zK} (HX4_pairError : iX4_pairError CX4_pairError) {CX2_between : zK} (HX2_between : iX2_between CX2_between) {σ : zS} {a : AS} {u : Int32} {v : Int32} {P : zP} (hσ : cSt a σ) (hp : ∀ r a' σ', rCap u v a r a' → cSt a' σ' → P (some (.inl r)) σ') {Z : zH} (hZ : zcl (tX4_capacity, fX4, gX4, [(51, 2, 4, CX4_pairError), (55, 2, 2, CX2_between)], [], 1) P Z) : Z (σ) 0 [some (.inr (.inl 0)), some (.inl u), some (.inl v), none] [] := by
  have hσ0 := hσ
  obtain ⟨n, K, L, F, ob⟩ := a
  obtain ⟨xfl, xn, xcap, xfs, xss, xbs, xnx, xsz, xsd, xct, xpa, xla, xsi, xre, xcf, xfn, xrc, rfl, hG, hR, hF, hT⟩ := hσ
  dsimp only at hG hR hF hT
  have hn2 := hG.2.2.1
  refine hZ [] 60 _ _ _ _ ?_
  refine HX4_pairError hG.1 ?_
  rcases pe_spec hn2 u v with e | ⟨e, i, j, hi, hj, hij, rfl, rfl⟩
  · refine And.intro (fun c => absurd c e) (fun _ => ?_)
    exact hp _ _ _ ⟨rfl, Or.inl ⟨e, rfl⟩⟩ hσ0
  · refine And.intro (fun _ => ?_) (fun c => absurd e c)
    refine HX2_between rfl rfl (by omega) (by omega) ?_
    exact hp _ _ _ ⟨rfl, Or.inr ⟨i, j, ⟨hi, hj, hij, rfl, rfl⟩, hG.2.2.2.1 i j (by omega) (by omega)⟩⟩ hσ0
theorem zX4_capacity (l : Launch) : zMet l yX4_capacity cX4_capacity 4 (some .int) rX4_capacity kX4_capacity := zMet_of (by decide) ⟨rfl, rfl⟩ (oX4_capacity l) (fun as0 st0 P h => by
  obtain ⟨σ, a, u, v, h0, rfl, rfl, hz⟩ := h
  exact ⟨Nat.le_of_ble_eq_true rfl, fun Z hZ => wX4_capacity eX4_pairError eX2_between h0 hz hZ⟩)

/-- count(w) -/
def kX4_count : zK := fun as0 st0 P => ∃ σ : zS, ∃ a : AS, ∃ w : Int32, (cSt a σ) ∧ as0 = [.inr (.inl 0), .inl w] ∧ st0 = σ ∧ (∀ r a' σ', rCount w a r a' → cSt a' σ' → P (some (.inl r)) σ')
def iX4_count (C0 : zK) : Prop := ∀ {σ : zS} {a : AS} {w : Int32} {P : zP}, (cSt a σ) → (∀ r a' σ', rCount w a r a' → cSt a' σ' → P (some (.inl r)) σ') → C0 [.inr (.inl 0), .inl w] (σ) P
theorem eX4_count : iX4_count kX4_count := by
  intro σ a w P h0 hz
  exact ⟨σ, a, w, h0, rfl, rfl, hz⟩
theorem oX4_count (l : Launch) : zOK l RX4 cX4_count rX4_count (some .int) (tX4_count, fX4, gX4, [(71, 0, 2, kX2_edges)], [], 1) := ⟨tX4_count_ok, fX4_ok, gX4_ok, List.forall_mem_cons.mpr ⟨⟨yX2_edges, cX2_edges, 4, (some .int), rX2_edges, zX2_edges l, by decide +kernel, ykX2_edges, lkX4_71⟩, fun _ h => absurd h List.not_mem_nil⟩, by decide +kernel, rfl⟩
set_option maxRecDepth 100000 in
set_option maxHeartbeats 4000000 in
theorem wX4_count {CX2_edges : zK} (HX2_edges : iX2_edges CX2_edges) {σ : zS} {a : AS} {w : Int32} {P : zP} (hσ : cSt a σ) (hp : ∀ r a' σ', rCount w a r a' → cSt a' σ' → P (some (.inl r)) σ') {Z : zH} (hZ : zcl (tX4_count, fX4, gX4, [(71, 0, 2, CX2_edges)], [], 1) P Z) : Z (σ) 0 [some (.inr (.inl 0)), some (.inl w)] [] := by
  have hσ0 := hσ
  obtain ⟨n, K, L, F, ob⟩ := a
  obtain ⟨xfl, xn, xcap, xfs, xss, xbs, xnx, xsz, xsd, xct, xpa, xla, xsi, xre, xcf, xfn, xrc, rfl, hG, hR, hF, hT⟩ := hσ
  dsimp only at hG hR hF hT
  refine hZ [] 60 _ _ _ _ ?_
  refine And.intro (fun c => ?_) (fun off c1 c2 ho => ?_)
  · exact hp _ _ _ ⟨rfl, Or.inr (Or.inr (Or.inr (Or.inr ⟨c, rfl⟩)))⟩ hσ0
  · have hw : w.toInt = 0 ∨ w.toInt = 1 ∨ w.toInt = 2 ∨ w.toInt = 3 := by omega
    rcases hw with h | h | h | h
    · have e : w = 0 := Int32.toInt_inj.mp h
      subst e
      obtain rfl : (31 : Int) = off := Option.some.inj ho
      exact hp _ _ _ ⟨rfl, Or.inl ⟨rfl, hG.1.symm⟩⟩ hσ0
    · have e : w = 1 := Int32.toInt_inj.mp h
      subst e
      obtain rfl : (39 : Int) = off := Option.some.inj ho
      refine HX2_edges hG ?_
      exact hp _ _ _ ⟨rfl, Or.inr (Or.inl ⟨rfl, rfl⟩)⟩ hσ0
    · have e : w = 2 := Int32.toInt_inj.mp h
      subst e
      obtain rfl : (47 : Int) = off := Option.some.inj ho
      obtain ⟨q, hq, hnx, hsz, hl, h1, h2⟩ := hR
      exact hp _ _ _ ⟨rfl, Or.inr (Or.inr (Or.inl ⟨rfl, hsz.symm⟩))⟩ hσ0
    · have e : w = 3 := Int32.toInt_inj.mp h
      subst e
      obtain rfl : (55 : Int) = off := Option.some.inj ho
      exact hp _ _ _ ⟨rfl, Or.inr (Or.inr (Or.inr (Or.inl ⟨rfl, hF.symm⟩)))⟩ hσ0
theorem zX4_count (l : Launch) : zMet l yX4_count cX4_count 2 (some .int) rX4_count kX4_count := zMet_of (by decide) ⟨rfl, rfl⟩ (oX4_count l) (fun as0 st0 P h => by
  obtain ⟨σ, a, w, h0, rfl, rfl, hz⟩ := h
  exact ⟨Nat.le_of_ble_eq_true rfl, fun Z hZ => wX4_count eX2_edges h0 hz hZ⟩)

/-- cutWeight(x) -/
def kX4_cutWeight : zK := fun as0 st0 P => ∃ σ : zS, ∃ a : AS, ∃ x : Int32, (cSt a σ) ∧ as0 = [.inr (.inl 0), .inl x] ∧ st0 = σ ∧ (∀ r a' σ', rCutW x a r a' → cSt a' σ' → P (some (.inl r)) σ')
def iX4_cutWeight (C0 : zK) : Prop := ∀ {σ : zS} {a : AS} {x : Int32} {P : zP}, (cSt a σ) → (∀ r a' σ', rCutW x a r a' → cSt a' σ' → P (some (.inl r)) σ') → C0 [.inr (.inl 0), .inl x] (σ) P
theorem eX4_cutWeight : iX4_cutWeight kX4_cutWeight := by
  intro σ a x P h0 hz
  exact ⟨σ, a, x, h0, rfl, rfl, hz⟩
theorem oX4_cutWeight (l : Launch) : zOK l RX4 cX4_cutWeight rX4_cutWeight (some .int) (tX4_cutWeight, fX4, gX4, [(75, 1, 2, kX2_isCut), (79, 1, 2, kX2_weightOf)], [], 1) := ⟨tX4_cutWeight_ok, fX4_ok, gX4_ok, List.forall_mem_cons.mpr ⟨⟨yX2_isCut, cX2_isCut, 2, (some .boolean), rX2_isCut, zX2_isCut l, by decide +kernel, ykX2_isCut, lkX4_75⟩, List.forall_mem_cons.mpr ⟨⟨yX2_weightOf, cX2_weightOf, 5, (some .int), rX2_weightOf, zX2_weightOf l, by decide +kernel, ykX2_weightOf, lkX4_79⟩, fun _ h => absurd h List.not_mem_nil⟩⟩, by decide +kernel, rfl⟩
set_option maxRecDepth 100000 in
set_option maxHeartbeats 4000000 in
theorem wX4_cutWeight {CX2_isCut : zK} (HX2_isCut : iX2_isCut CX2_isCut) {CX2_weightOf : zK} (HX2_weightOf : iX2_weightOf CX2_weightOf) {σ : zS} {a : AS} {x : Int32} {P : zP} (hσ : cSt a σ) (hp : ∀ r a' σ', rCutW x a r a' → cSt a' σ' → P (some (.inl r)) σ') {Z : zH} (hZ : zcl (tX4_cutWeight, fX4, gX4, [(75, 1, 2, CX2_isCut), (79, 1, 2, CX2_weightOf)], [], 1) P Z) : Z (σ) 0 [some (.inr (.inl 0)), some (.inl x)] [] := by
  have hσ0 := hσ
  obtain ⟨n, K, L, F, ob⟩ := a
  obtain ⟨xfl, xn, xcap, xfs, xss, xbs, xnx, xsz, xsd, xct, xpa, xla, xsi, xre, xcf, xfn, xrc, rfl, hG, hR, hF, hT⟩ := hσ
  dsimp only at hG hR hF hT
  have hn2 := hG.2.2.1
  have p12n := p12 hn2
  refine hZ [] 60 _ _ _ _ ?_
  refine HX2_isCut hG.1 hn2 ?_
  refine bz (fun h => ?_) (fun h => ?_)
  · exact hp _ _ _ ⟨rfl, Or.inl ⟨h, rfl⟩⟩ hσ0
  · obtain ⟨S, h0, h1, rfl⟩ := okC_of hn2 h
    refine HX2_weightOf hG rfl (by omega) ?_
    exact hp _ _ _ ⟨rfl, Or.inr ⟨S, h0, h1, rfl, rfl⟩⟩ hσ0
theorem zX4_cutWeight (l : Launch) : zMet l yX4_cutWeight cX4_cutWeight 2 (some .int) rX4_cutWeight kX4_cutWeight := zMet_of (by decide) ⟨rfl, rfl⟩ (oX4_cutWeight l) (fun as0 st0 P h => by
  obtain ⟨σ, a, x, h0, rfl, rfl, hz⟩ := h
  exact ⟨Nat.le_of_ble_eq_true rfl, fun Z hZ => wX4_cutWeight eX2_isCut eX2_weightOf h0 hz hZ⟩)

/-- build() -/
def kX4_build : zK := fun as0 st0 P => ∃ σ : zS, ∃ a : AS, (cSt a σ) ∧ as0 = [.inr (.inl 0)] ∧ st0 = σ ∧ (∀ r a' σ', rBuild a r a' → cSt a' σ' → P (some (.inl r)) σ')
def iX4_build (C0 : zK) : Prop := ∀ {σ : zS} {a : AS} {P : zP}, (cSt a σ) → (∀ r a' σ', rBuild a r a' → cSt a' σ' → P (some (.inl r)) σ') → C0 [.inr (.inl 0)] (σ) P
theorem eX4_build : iX4_build kX4_build := by
  intro σ a P h0 hz
  exact ⟨σ, a, h0, rfl, rfl, hz⟩
theorem oX4_build (l : Launch) : zOK l RX4 cX4_build rX4_build (some .int) (tX4_build, fX4, gX4, [(83, 0, 4, kX4_freshen)], [], 1) := ⟨tX4_build_ok, fX4_ok, gX4_ok, List.forall_mem_cons.mpr ⟨⟨yX4_freshen, cX4_freshen, 1, none, rX4_freshen, zX4_freshen l, by decide +kernel, ykX4_freshen, lkX4_83⟩, fun _ h => absurd h List.not_mem_nil⟩, by decide +kernel, rfl⟩
set_option maxRecDepth 100000 in
set_option maxHeartbeats 4000000 in
theorem wX4_build {CX4_freshen : zK} (HX4_freshen : iX4_freshen CX4_freshen) {σ : zS} {a : AS} {P : zP} (hσ : cSt a σ) (hp : ∀ r a' σ', rBuild a r a' → cSt a' σ' → P (some (.inl r)) σ') {Z : zH} (hZ : zcl (tX4_build, fX4, gX4, [(83, 0, 4, CX4_freshen)], [], 1) P Z) : Z (σ) 0 [some (.inr (.inl 0)), none] [] := by
  have hσ0 := hσ
  obtain ⟨n, K, L, F, ob⟩ := a
  obtain ⟨xfl, xn, xcap, xfs, xss, xbs, xnx, xsz, xsd, xct, xpa, xla, xsi, xre, xcf, xfn, xrc, rfl, hG, hR, hF, hT⟩ := hσ
  dsimp only at hG hR hF hT
  refine hZ [] 60 _ _ _ _ ?_
  refine HX4_freshen hσ0 (fun a' σ' hrF hc => ?_)
  have hc0 := hc
  obtain ⟨n', K', L', F', ob'⟩ := a'
  obtain ⟨yfl, yn, ycap, yfs, yss, ybs, ynx, ysz, ysd, yct, ypa, yla, ysi, yre, ycf, yfn, yrc, rfl, hG', hR', hF', hT'⟩ := hc
  dsimp only at hF'
  exact hp _ _ _ ⟨hrF, by rw [← hF', ← hF]⟩ hc0
theorem zX4_build (l : Launch) : zMet l yX4_build cX4_build 2 (some .int) rX4_build kX4_build := zMet_of (by decide) ⟨rfl, rfl⟩ (oX4_build l) (fun as0 st0 P h => by
  obtain ⟨σ, a, h0, rfl, rfl, hz⟩ := h
  exact ⟨Nat.le_of_ble_eq_true rfl, fun Z hZ => wX4_build eX4_freshen h0 hz hZ⟩)

/-- isFresh() -/
def kX4_isFresh : zK := fun as0 st0 P => ∃ σ : zS, ∃ a : AS, (cSt a σ) ∧ as0 = [.inr (.inl 0)] ∧ st0 = σ ∧ (∀ r a' σ', rFresh a r a' → cSt a' σ' → P (some (.inl r)) σ')
def iX4_isFresh (C0 : zK) : Prop := ∀ {σ : zS} {a : AS} {P : zP}, (cSt a σ) → (∀ r a' σ', rFresh a r a' → cSt a' σ' → P (some (.inl r)) σ') → C0 [.inr (.inl 0)] (σ) P
theorem eX4_isFresh : iX4_isFresh kX4_isFresh := by
  intro σ a P h0 hz
  exact ⟨σ, a, h0, rfl, rfl, hz⟩
theorem oX4_isFresh (l : Launch) : zOK l RX4 cX4_isFresh rX4_isFresh (some .int) (tX4_isFresh, fX4, gX4, [(86, 0, 1, kX1_fitsGraph)], [], 1) := ⟨tX4_isFresh_ok, fX4_ok, gX4_ok, List.forall_mem_cons.mpr ⟨⟨yX1_fitsGraph, cX1_fitsGraph, 3, (some .boolean), rX1_fitsGraph, zX1_fitsGraph l, by decide +kernel, ykX1_fitsGraph, lkX4_86⟩, fun _ h => absurd h List.not_mem_nil⟩, by decide +kernel, rfl⟩
set_option maxRecDepth 100000 in
set_option maxHeartbeats 4000000 in
theorem wX4_isFresh {CX1_fitsGraph : zK} (HX1_fitsGraph : iX1_fitsGraph CX1_fitsGraph) {σ : zS} {a : AS} {P : zP} (hσ : cSt a σ) (hp : ∀ r a' σ', rFresh a r a' → cSt a' σ' → P (some (.inl r)) σ') {Z : zH} (hZ : zcl (tX4_isFresh, fX4, gX4, [(86, 0, 1, CX1_fitsGraph)], [], 1) P Z) : Z (σ) 0 [some (.inr (.inl 0))] [] := by
  have hσ0 := hσ
  obtain ⟨n, K, L, F, ob⟩ := a
  obtain ⟨xfl, xn, xcap, xfs, xss, xbs, xnx, xsz, xsd, xct, xpa, xla, xsi, xre, xcf, xfn, xrc, rfl, hG, hR, hF, hT⟩ := hσ
  dsimp only at hG hR hF hT
  refine hZ [] 60 _ _ _ _ ?_
  refine HX1_fitsGraph hG hT (fun b hb => ?_)
  refine bz (fun h => ?_) (fun h => ?_)
  · exact hp _ _ _ ⟨rfl, Or.inr ⟨fun q => (by rw [hb.mpr q] at h; cases h), rfl⟩⟩ hσ0
  · exact hp _ _ _ ⟨rfl, Or.inl ⟨hb.mp h, rfl⟩⟩ hσ0
theorem zX4_isFresh (l : Launch) : zMet l yX4_isFresh cX4_isFresh 1 (some .int) rX4_isFresh kX4_isFresh := zMet_of (by decide) ⟨rfl, rfl⟩ (oX4_isFresh l) (fun as0 st0 P h => by
  obtain ⟨σ, a, h0, rfl, rfl, hz⟩ := h
  exact ⟨Nat.le_of_ble_eq_true rfl, fun Z hZ => wX4_isFresh eX1_fitsGraph h0 hz hZ⟩)

/-- parent(k) -/
def kX4_parent : zK := fun as0 st0 P => ∃ σ : zS, ∃ a : AS, ∃ k : Int32, (cSt a σ) ∧ as0 = [.inr (.inl 0), .inl k] ∧ st0 = σ ∧ (∀ r a' σ', rNode vPa k a r a' → cSt a' σ' → P (some (.inl r)) σ')
def iX4_parent (C0 : zK) : Prop := ∀ {σ : zS} {a : AS} {k : Int32} {P : zP}, (cSt a σ) → (∀ r a' σ', rNode vPa k a r a' → cSt a' σ' → P (some (.inl r)) σ') → C0 [.inr (.inl 0), .inl k] (σ) P
theorem eX4_parent : iX4_parent kX4_parent := by
  intro σ a k P h0 hz
  exact ⟨σ, a, k, h0, rfl, rfl, hz⟩
theorem oX4_parent (l : Launch) : zOK l RX4 cX4_parent rX4_parent (some .int) (tX4_parent, fX4, gX4, [(90, 1, 4, kX4_storedNodeError)], [], 1) := ⟨tX4_parent_ok, fX4_ok, gX4_ok, List.forall_mem_cons.mpr ⟨⟨yX4_storedNodeError, cX4_storedNodeError, 2, (some .int), rX4_storedNodeError, zX4_storedNodeError l, by decide +kernel, ykX4_storedNodeError, lkX4_90⟩, fun _ h => absurd h List.not_mem_nil⟩, by decide +kernel, rfl⟩
set_option maxRecDepth 100000 in
set_option maxHeartbeats 4000000 in
theorem wX4_parent {CX4_storedNodeError : zK} (HX4_storedNodeError : iX4_storedNodeError CX4_storedNodeError) {σ : zS} {a : AS} {k : Int32} {P : zP} (hσ : cSt a σ) (hp : ∀ r a' σ', rNode vPa k a r a' → cSt a' σ' → P (some (.inl r)) σ') {Z : zH} (hZ : zcl (tX4_parent, fX4, gX4, [(90, 1, 4, CX4_storedNodeError)], [], 1) P Z) : Z (σ) 0 [some (.inr (.inl 0)), some (.inl k), none] [] := by
  have hσ0 := hσ
  obtain ⟨n, K, L, F, ob⟩ := a
  obtain ⟨xfl, xn, xcap, xfs, xss, xbs, xnx, xsz, xsd, xct, xpa, xla, xsi, xre, xcf, xfn, xrc, rfl, hG, hR, hF, hT⟩ := hσ
  dsimp only at hG hR hF hT
  have hn2 := hG.2.2.1
  refine hZ [] 60 _ _ _ _ ?_
  refine HX4_storedNodeError hG.1 hT ⟨fun h => ?_, fun h => ⟨fun h2 => ?_, fun B h2 => ?_⟩⟩
  · refine And.intro (fun c => absurd c (by decide)) (fun _ => ?_)
    exact hp _ _ _ ⟨rfl, Or.inl ⟨h, rfl⟩⟩ hσ0
  · refine And.intro (fun c => absurd c (by decide)) (fun _ => ?_)
    exact hp _ _ _ ⟨rfl, Or.inr (Or.inl ⟨h, h2, rfl⟩)⟩ hσ0
  · refine And.intro (fun _ => ?_) (fun c => absurd rfl c)
    obtain ⟨i, hi, rfl⟩ := okN_of (by omega) h
    rw [h2] at hT
    obtain ⟨-, hB, -, hpa, hla, hsi⟩ := cT_some hT
    refine And.intro (in12 (by omega)) ?_
    rw [cl12 (by omega)]
    have e : xpa i = vPa n B i := by
      unfold vPa
      by_cases h0 : i = 0
      · rw [if_pos h0, h0]; exact hpa.1
      · rw [if_neg h0]; exact hpa.2 i (by omega) hi
    exact hp _ _ _ ⟨rfl, Or.inr (Or.inr ⟨B, i, h2, hi, rfl, e⟩)⟩ hσ0
theorem zX4_parent (l : Launch) : zMet l yX4_parent cX4_parent 3 (some .int) rX4_parent kX4_parent := zMet_of (by decide) ⟨rfl, rfl⟩ (oX4_parent l) (fun as0 st0 P h => by
  obtain ⟨σ, a, k, h0, rfl, rfl, hz⟩ := h
  exact ⟨Nat.le_of_ble_eq_true rfl, fun Z hZ => wX4_parent eX4_storedNodeError h0 hz hZ⟩)

/-- label(k) -/
def kX4_label : zK := fun as0 st0 P => ∃ σ : zS, ∃ a : AS, ∃ k : Int32, (cSt a σ) ∧ as0 = [.inr (.inl 0), .inl k] ∧ st0 = σ ∧ (∀ r a' σ', rNode vLa k a r a' → cSt a' σ' → P (some (.inl r)) σ')
def iX4_label (C0 : zK) : Prop := ∀ {σ : zS} {a : AS} {k : Int32} {P : zP}, (cSt a σ) → (∀ r a' σ', rNode vLa k a r a' → cSt a' σ' → P (some (.inl r)) σ') → C0 [.inr (.inl 0), .inl k] (σ) P
theorem eX4_label : iX4_label kX4_label := by
  intro σ a k P h0 hz
  exact ⟨σ, a, k, h0, rfl, rfl, hz⟩
theorem oX4_label (l : Launch) : zOK l RX4 cX4_label rX4_label (some .int) (tX4_label, fX4, gX4, [(90, 1, 4, kX4_storedNodeError)], [], 1) := ⟨tX4_label_ok, fX4_ok, gX4_ok, List.forall_mem_cons.mpr ⟨⟨yX4_storedNodeError, cX4_storedNodeError, 2, (some .int), rX4_storedNodeError, zX4_storedNodeError l, by decide +kernel, ykX4_storedNodeError, lkX4_90⟩, fun _ h => absurd h List.not_mem_nil⟩, by decide +kernel, rfl⟩
set_option maxRecDepth 100000 in
set_option maxHeartbeats 4000000 in
theorem wX4_label {CX4_storedNodeError : zK} (HX4_storedNodeError : iX4_storedNodeError CX4_storedNodeError) {σ : zS} {a : AS} {k : Int32} {P : zP} (hσ : cSt a σ) (hp : ∀ r a' σ', rNode vLa k a r a' → cSt a' σ' → P (some (.inl r)) σ') {Z : zH} (hZ : zcl (tX4_label, fX4, gX4, [(90, 1, 4, CX4_storedNodeError)], [], 1) P Z) : Z (σ) 0 [some (.inr (.inl 0)), some (.inl k), none] [] := by
  have hσ0 := hσ
  obtain ⟨n, K, L, F, ob⟩ := a
  obtain ⟨xfl, xn, xcap, xfs, xss, xbs, xnx, xsz, xsd, xct, xpa, xla, xsi, xre, xcf, xfn, xrc, rfl, hG, hR, hF, hT⟩ := hσ
  dsimp only at hG hR hF hT
  have hn2 := hG.2.2.1
  refine hZ [] 60 _ _ _ _ ?_
  refine HX4_storedNodeError hG.1 hT ⟨fun h => ?_, fun h => ⟨fun h2 => ?_, fun B h2 => ?_⟩⟩
  · refine And.intro (fun c => absurd c (by decide)) (fun _ => ?_)
    exact hp _ _ _ ⟨rfl, Or.inl ⟨h, rfl⟩⟩ hσ0
  · refine And.intro (fun c => absurd c (by decide)) (fun _ => ?_)
    exact hp _ _ _ ⟨rfl, Or.inr (Or.inl ⟨h, h2, rfl⟩)⟩ hσ0
  · refine And.intro (fun _ => ?_) (fun c => absurd rfl c)
    obtain ⟨i, hi, rfl⟩ := okN_of (by omega) h
    rw [h2] at hT
    obtain ⟨-, hB, -, hpa, hla, hsi⟩ := cT_some hT
    refine And.intro (in12 (by omega)) ?_
    rw [cl12 (by omega)]
    have e : xla i = vLa n B i := by
      unfold vLa
      by_cases h0 : i = 0
      · rw [if_pos h0, h0]; exact hla.1
      · rw [if_neg h0]; exact hla.2 i (by omega) hi
    exact hp _ _ _ ⟨rfl, Or.inr (Or.inr ⟨B, i, h2, hi, rfl, e⟩)⟩ hσ0
theorem zX4_label (l : Launch) : zMet l yX4_label cX4_label 3 (some .int) rX4_label kX4_label := zMet_of (by decide) ⟨rfl, rfl⟩ (oX4_label l) (fun as0 st0 P h => by
  obtain ⟨σ, a, k, h0, rfl, rfl, hz⟩ := h
  exact ⟨Nat.le_of_ble_eq_true rfl, fun Z hZ => wX4_label eX4_storedNodeError h0 hz hZ⟩)

/-- side(k) -/
def kX4_side : zK := fun as0 st0 P => ∃ σ : zS, ∃ a : AS, ∃ k : Int32, (cSt a σ) ∧ as0 = [.inr (.inl 0), .inl k] ∧ st0 = σ ∧ (∀ r a' σ', rNode vSi k a r a' → cSt a' σ' → P (some (.inl r)) σ')
def iX4_side (C0 : zK) : Prop := ∀ {σ : zS} {a : AS} {k : Int32} {P : zP}, (cSt a σ) → (∀ r a' σ', rNode vSi k a r a' → cSt a' σ' → P (some (.inl r)) σ') → C0 [.inr (.inl 0), .inl k] (σ) P
theorem eX4_side : iX4_side kX4_side := by
  intro σ a k P h0 hz
  exact ⟨σ, a, k, h0, rfl, rfl, hz⟩
theorem oX4_side (l : Launch) : zOK l RX4 cX4_side rX4_side (some .int) (tX4_side, fX4, gX4, [(90, 1, 4, kX4_storedNodeError)], [], 1) := ⟨tX4_side_ok, fX4_ok, gX4_ok, List.forall_mem_cons.mpr ⟨⟨yX4_storedNodeError, cX4_storedNodeError, 2, (some .int), rX4_storedNodeError, zX4_storedNodeError l, by decide +kernel, ykX4_storedNodeError, lkX4_90⟩, fun _ h => absurd h List.not_mem_nil⟩, by decide +kernel, rfl⟩
set_option maxRecDepth 100000 in
set_option maxHeartbeats 4000000 in
theorem wX4_side {CX4_storedNodeError : zK} (HX4_storedNodeError : iX4_storedNodeError CX4_storedNodeError) {σ : zS} {a : AS} {k : Int32} {P : zP} (hσ : cSt a σ) (hp : ∀ r a' σ', rNode vSi k a r a' → cSt a' σ' → P (some (.inl r)) σ') {Z : zH} (hZ : zcl (tX4_side, fX4, gX4, [(90, 1, 4, CX4_storedNodeError)], [], 1) P Z) : Z (σ) 0 [some (.inr (.inl 0)), some (.inl k), none] [] := by
  have hσ0 := hσ
  obtain ⟨n, K, L, F, ob⟩ := a
  obtain ⟨xfl, xn, xcap, xfs, xss, xbs, xnx, xsz, xsd, xct, xpa, xla, xsi, xre, xcf, xfn, xrc, rfl, hG, hR, hF, hT⟩ := hσ
  dsimp only at hG hR hF hT
  have hn2 := hG.2.2.1
  refine hZ [] 60 _ _ _ _ ?_
  refine HX4_storedNodeError hG.1 hT ⟨fun h => ?_, fun h => ⟨fun h2 => ?_, fun B h2 => ?_⟩⟩
  · refine And.intro (fun c => absurd c (by decide)) (fun _ => ?_)
    exact hp _ _ _ ⟨rfl, Or.inl ⟨h, rfl⟩⟩ hσ0
  · refine And.intro (fun c => absurd c (by decide)) (fun _ => ?_)
    exact hp _ _ _ ⟨rfl, Or.inr (Or.inl ⟨h, h2, rfl⟩)⟩ hσ0
  · refine And.intro (fun _ => ?_) (fun c => absurd rfl c)
    obtain ⟨i, hi, rfl⟩ := okN_of (by omega) h
    rw [h2] at hT
    obtain ⟨-, hB, -, hpa, hla, hsi⟩ := cT_some hT
    refine And.intro (in12 (by omega)) ?_
    rw [cl12 (by omega)]
    exact hp _ _ _ ⟨rfl, Or.inr (Or.inr ⟨B, i, h2, hi, rfl, hsi i hi⟩)⟩ hσ0
theorem zX4_side (l : Launch) : zMet l yX4_side cX4_side 3 (some .int) rX4_side kX4_side := zMet_of (by decide) ⟨rfl, rfl⟩ (oX4_side l) (fun as0 st0 P h => by
  obtain ⟨σ, a, k, h0, rfl, rfl, hz⟩ := h
  exact ⟨Nat.le_of_ble_eq_true rfl, fun Z hZ => wX4_side eX4_storedNodeError h0 hz hZ⟩)

/-- loss() -/
def kX4_loss : zK := fun as0 st0 P => ∃ σ : zS, ∃ a : AS, (cSt a σ) ∧ as0 = [.inr (.inl 0)] ∧ st0 = σ ∧ (∀ r a' σ', rLoss a r a' → cSt a' σ' → P (some (.inl r)) σ')
def iX4_loss (C0 : zK) : Prop := ∀ {σ : zS} {a : AS} {P : zP}, (cSt a σ) → (∀ r a' σ', rLoss a r a' → cSt a' σ' → P (some (.inl r)) σ') → C0 [.inr (.inl 0)] (σ) P
theorem eX4_loss : iX4_loss kX4_loss := by
  intro σ a P h0 hz
  exact ⟨σ, a, h0, rfl, rfl, hz⟩
theorem oX4_loss (l : Launch) : zOK l RX4 cX4_loss rX4_loss (some .int) (tX4_loss, fX4, gX4, [(103, 0, 1, kX1_lostCapacity)], [], 1) := ⟨tX4_loss_ok, fX4_ok, gX4_ok, List.forall_mem_cons.mpr ⟨⟨yX1_lostCapacity, cX1_lostCapacity, 4, (some .int), rX1_lostCapacity, zX1_lostCapacity l, by decide +kernel, ykX1_lostCapacity, lkX4_103⟩, fun _ h => absurd h List.not_mem_nil⟩, by decide +kernel, rfl⟩
set_option maxRecDepth 100000 in
set_option maxHeartbeats 4000000 in
theorem wX4_loss {CX1_lostCapacity : zK} (HX1_lostCapacity : iX1_lostCapacity CX1_lostCapacity) {σ : zS} {a : AS} {P : zP} (hσ : cSt a σ) (hp : ∀ r a' σ', rLoss a r a' → cSt a' σ' → P (some (.inl r)) σ') {Z : zH} (hZ : zcl (tX4_loss, fX4, gX4, [(103, 0, 1, CX1_lostCapacity)], [], 1) P Z) : Z (σ) 0 [some (.inr (.inl 0))] [] := by
  have hσ0 := hσ
  obtain ⟨n, K, L, F, ob⟩ := a
  obtain ⟨xfl, xn, xcap, xfs, xss, xbs, xnx, xsz, xsd, xct, xpa, xla, xsi, xre, xcf, xfn, xrc, rfl, hG, hR, hF, hT⟩ := hσ
  dsimp only at hG hR hF hT
  refine hZ [] 60 _ _ _ _ ?_
  rcases cT_0 hT with ⟨e, e2⟩ | ⟨e, B, e2⟩
  · refine And.intro (fun _ => ?_) (fun c => absurd e c)
    exact hp _ _ _ ⟨rfl, Or.inl ⟨e2, rfl⟩⟩ hσ0
  · refine And.intro (fun c => absurd c (by rw [e]; decide)) (fun _ => ?_)
    rw [e2] at hT
    refine HX1_lostCapacity hG hT ?_
    exact hp _ _ _ ⟨rfl, Or.inr ⟨B, e2, rfl⟩⟩ hσ0
theorem zX4_loss (l : Launch) : zMet l yX4_loss cX4_loss 1 (some .int) rX4_loss kX4_loss := zMet_of (by decide) ⟨rfl, rfl⟩ (oX4_loss l) (fun as0 st0 P h => by
  obtain ⟨σ, a, h0, rfl, rfl, hz⟩ := h
  exact ⟨Nat.le_of_ble_eq_true rfl, fun Z hZ => wX4_loss eX1_lostCapacity h0 hz hZ⟩)

/-- lowerBound(s, t) -/
def kX4_lowerBound : zK := fun as0 st0 P => ∃ σ : zS, ∃ a : AS, ∃ s : Int32, ∃ t : Int32, (cSt a σ) ∧ as0 = [.inr (.inl 0), .inl s, .inl t] ∧ st0 = σ ∧ (∀ r a' σ', rPair lob s t a r a' → cSt a' σ' → P (some (.inl r)) σ')
def iX4_lowerBound (C0 : zK) : Prop := ∀ {σ : zS} {a : AS} {s : Int32} {t : Int32} {P : zP}, (cSt a σ) → (∀ r a' σ', rPair lob s t a r a' → cSt a' σ' → P (some (.inl r)) σ') → C0 [.inr (.inl 0), .inl s, .inl t] (σ) P
theorem eX4_lowerBound : iX4_lowerBound kX4_lowerBound := by
  intro σ a s t P h0 hz
  exact ⟨σ, a, s, t, h0, rfl, rfl, hz⟩
theorem oX4_lowerBound (l : Launch) : zOK l RX4 cX4_lowerBound rX4_lowerBound (some .int) (tX4_lowerBound, fX4, gX4, [(106, 2, 4, kX4_storedPairError), (109, 2, 1, kX1_atLeast)], [], 1) := ⟨tX4_lowerBound_ok, fX4_ok, gX4_ok, List.forall_mem_cons.mpr ⟨⟨yX4_storedPairError, cX4_storedPairError, 4, (some .int), rX4_storedPairError, zX4_storedPairError l, by decide +kernel, ykX4_storedPairError, lkX4_106⟩, List.forall_mem_cons.mpr ⟨⟨yX1_atLeast, cX1_atLeast, 3, (some .int), rX1_atLeast, zX1_atLeast l, by decide +kernel, ykX1_atLeast, lkX4_109⟩, fun _ h => absurd h List.not_mem_nil⟩⟩, by decide +kernel, rfl⟩
set_option maxRecDepth 100000 in
set_option maxHeartbeats 4000000 in
theorem wX4_lowerBound {CX4_storedPairError : zK} (HX4_storedPairError : iX4_storedPairError CX4_storedPairError) {CX1_atLeast : zK} (HX1_atLeast : iX1_atLeast CX1_atLeast) {σ : zS} {a : AS} {s : Int32} {t : Int32} {P : zP} (hσ : cSt a σ) (hp : ∀ r a' σ', rPair lob s t a r a' → cSt a' σ' → P (some (.inl r)) σ') {Z : zH} (hZ : zcl (tX4_lowerBound, fX4, gX4, [(106, 2, 4, CX4_storedPairError), (109, 2, 1, CX1_atLeast)], [], 1) P Z) : Z (σ) 0 [some (.inr (.inl 0)), some (.inl s), some (.inl t), none] [] := by
  have hσ0 := hσ
  obtain ⟨n, K, L, F, ob⟩ := a
  obtain ⟨xfl, xn, xcap, xfs, xss, xbs, xnx, xsz, xsd, xct, xpa, xla, xsi, xre, xcf, xfn, xrc, rfl, hG, hR, hF, hT⟩ := hσ
  dsimp only at hG hR hF hT
  have hn2 := hG.2.2.1
  refine hZ [] 60 _ _ _ _ ?_
  refine HX4_storedPairError hG.1 hT ⟨fun h => ?_, fun h => ⟨fun h2 => ?_, fun B h2 => ?_⟩⟩
  · refine And.intro (fun c => absurd c h) (fun _ => ?_)
    exact hp _ _ _ ⟨rfl, Or.inl ⟨h, rfl⟩⟩ hσ0
  · refine And.intro (fun c => absurd c (by decide)) (fun _ => ?_)
    exact hp _ _ _ ⟨rfl, Or.inr (Or.inl ⟨h, h2, rfl⟩)⟩ hσ0
  · refine And.intro (fun _ => ?_) (fun c => absurd rfl c)
    rcases pe_spec hn2 s t with e | ⟨e, i, j, hi, hj, hij, rfl, rfl⟩
    · exact absurd h e
    · rw [h2] at hT
      refine HX1_atLeast hG hT rfl rfl hi hj hij ?_
      exact hp _ _ _ ⟨rfl, Or.inr (Or.inr ⟨B, i, j, h2, ⟨hi, hj, hij, rfl, rfl⟩, rfl⟩)⟩ hσ0
theorem zX4_lowerBound (l : Launch) : zMet l yX4_lowerBound cX4_lowerBound 4 (some .int) rX4_lowerBound kX4_lowerBound := zMet_of (by decide) ⟨rfl, rfl⟩ (oX4_lowerBound l) (fun as0 st0 P h => by
  obtain ⟨σ, a, s, t, h0, rfl, rfl, hz⟩ := h
  exact ⟨Nat.le_of_ble_eq_true rfl, fun Z hZ => wX4_lowerBound eX4_storedPairError eX1_atLeast h0 hz hZ⟩)

/-- upperBound(s, t) -/
def kX4_upperBound : zK := fun as0 st0 P => ∃ σ : zS, ∃ a : AS, ∃ s : Int32, ∃ t : Int32, (cSt a σ) ∧ as0 = [.inr (.inl 0), .inl s, .inl t] ∧ st0 = σ ∧ (∀ r a' σ', rPair upb s t a r a' → cSt a' σ' → P (some (.inl r)) σ')
def iX4_upperBound (C0 : zK) : Prop := ∀ {σ : zS} {a : AS} {s : Int32} {t : Int32} {P : zP}, (cSt a σ) → (∀ r a' σ', rPair upb s t a r a' → cSt a' σ' → P (some (.inl r)) σ') → C0 [.inr (.inl 0), .inl s, .inl t] (σ) P
theorem eX4_upperBound : iX4_upperBound kX4_upperBound := by
  intro σ a s t P h0 hz
  exact ⟨σ, a, s, t, h0, rfl, rfl, hz⟩
theorem oX4_upperBound (l : Launch) : zOK l RX4 cX4_upperBound rX4_upperBound (some .int) (tX4_upperBound, fX4, gX4, [(106, 2, 4, kX4_storedPairError), (112, 2, 1, kX1_atMost)], [], 1) := ⟨tX4_upperBound_ok, fX4_ok, gX4_ok, List.forall_mem_cons.mpr ⟨⟨yX4_storedPairError, cX4_storedPairError, 4, (some .int), rX4_storedPairError, zX4_storedPairError l, by decide +kernel, ykX4_storedPairError, lkX4_106⟩, List.forall_mem_cons.mpr ⟨⟨yX1_atMost, cX1_atMost, 3, (some .int), rX1_atMost, zX1_atMost l, by decide +kernel, ykX1_atMost, lkX4_112⟩, fun _ h => absurd h List.not_mem_nil⟩⟩, by decide +kernel, rfl⟩
set_option maxRecDepth 100000 in
set_option maxHeartbeats 4000000 in
theorem wX4_upperBound {CX4_storedPairError : zK} (HX4_storedPairError : iX4_storedPairError CX4_storedPairError) {CX1_atMost : zK} (HX1_atMost : iX1_atMost CX1_atMost) {σ : zS} {a : AS} {s : Int32} {t : Int32} {P : zP} (hσ : cSt a σ) (hp : ∀ r a' σ', rPair upb s t a r a' → cSt a' σ' → P (some (.inl r)) σ') {Z : zH} (hZ : zcl (tX4_upperBound, fX4, gX4, [(106, 2, 4, CX4_storedPairError), (112, 2, 1, CX1_atMost)], [], 1) P Z) : Z (σ) 0 [some (.inr (.inl 0)), some (.inl s), some (.inl t), none] [] := by
  have hσ0 := hσ
  obtain ⟨n, K, L, F, ob⟩ := a
  obtain ⟨xfl, xn, xcap, xfs, xss, xbs, xnx, xsz, xsd, xct, xpa, xla, xsi, xre, xcf, xfn, xrc, rfl, hG, hR, hF, hT⟩ := hσ
  dsimp only at hG hR hF hT
  have hn2 := hG.2.2.1
  refine hZ [] 60 _ _ _ _ ?_
  refine HX4_storedPairError hG.1 hT ⟨fun h => ?_, fun h => ⟨fun h2 => ?_, fun B h2 => ?_⟩⟩
  · refine And.intro (fun c => absurd c h) (fun _ => ?_)
    exact hp _ _ _ ⟨rfl, Or.inl ⟨h, rfl⟩⟩ hσ0
  · refine And.intro (fun c => absurd c (by decide)) (fun _ => ?_)
    exact hp _ _ _ ⟨rfl, Or.inr (Or.inl ⟨h, h2, rfl⟩)⟩ hσ0
  · refine And.intro (fun _ => ?_) (fun c => absurd rfl c)
    rcases pe_spec hn2 s t with e | ⟨e, i, j, hi, hj, hij, rfl, rfl⟩
    · exact absurd h e
    · rw [h2] at hT
      refine HX1_atMost hG hT rfl rfl hi hj hij ?_
      exact hp _ _ _ ⟨rfl, Or.inr (Or.inr ⟨B, i, j, h2, ⟨hi, hj, hij, rfl, rfl⟩, rfl⟩)⟩ hσ0
theorem zX4_upperBound (l : Launch) : zMet l yX4_upperBound cX4_upperBound 4 (some .int) rX4_upperBound kX4_upperBound := zMet_of (by decide) ⟨rfl, rfl⟩ (oX4_upperBound l) (fun as0 st0 P h => by
  obtain ⟨σ, a, s, t, h0, rfl, rfl, hz⟩ := h
  exact ⟨Nat.le_of_ble_eq_true rfl, fun Z hZ => wX4_upperBound eX4_storedPairError eX1_atMost h0 hz hZ⟩)

