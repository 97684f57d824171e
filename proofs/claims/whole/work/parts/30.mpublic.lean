/-! THE REFERENCE'S PUBLIC METHODS: they answer what the relation says. -/
theorem rF_uniq {a b c : AS} (h1 : rF a b) (h2 : rF a c) : b = c := by
  rcases h1 with ⟨h, rfl⟩ | ⟨h, rfl⟩ <;> rcases h2 with ⟨g, rfl⟩ | ⟨g, rfl⟩
  · rfl
  · exact absurd h g
  · exact absurd g h
  · rfl
theorem rBM_uniq {i j : Nat} {a b c : AS} (h1 : rBM i j a b) (h2 : rBM i j a c) : b = c := by
  rcases h1 with ⟨h, rfl⟩ | ⟨h, rfl⟩ <;> rcases h2 with ⟨g, rfl⟩ | ⟨g, rfl⟩
  · rfl
  · exact absurd h g
  · exact absurd g h
  · rfl
theorem rAB_uniq {i j m : Nat} {a b c : AS} (h1 : rAB i j m a b) (h2 : rAB i j m a c) : b = c := by
  rcases h1 with ⟨h, rfl⟩ | ⟨h, rfl⟩ <;> rcases h2 with ⟨g, rfl⟩ | ⟨g, rfl⟩
  · rfl
  · exact absurd h g
  · exact absurd g h
  · rfl
theorem okP_pe {n : Nat} {s t : Int32} {i j : Nat} (hn : n ≤ 12) (h : okP n s t i j) : pe n s t = 0 := by
  obtain ⟨h1, h2, h3, rfl, rfl⟩ := h
  exact pe_ok hn h1 h2 h3
theorem okP_uniq {n : Nat} {s t : Int32} {i j i' j' : Nat} (hn : n ≤ 12) (h : okP n s t i j) (h' : okP n s t i' j') : i = i' ∧ j = j' := by
  obtain ⟨h1, h2, h3, rfl, rfl⟩ := h
  obtain ⟨g1, g2, g3, g4, g5⟩ := h'
  exact ⟨(nI_eq (by omega) (by omega)).mp g4, (nI_eq (by omega) (by omega)).mp g5⟩
/-- reset(k) -/
def kX5_reset : zK := fun as0 st0 P => ∃ σ : zS, ∃ a : AS, ∃ k : Int32, ∃ r : Int32, ∃ a' : AS, (mSt a σ) ∧ (rReset k a r a') ∧ as0 = [.inr (.inl 0), .inl k] ∧ st0 = σ ∧ (∀ σ', mSt a' σ' → P (some (.inl r)) σ')
def iX5_reset (C0 : zK) : Prop := ∀ {σ : zS} {a : AS} {k : Int32} {r : Int32} {a' : AS} {P : zP}, (mSt a σ) → (rReset k a r a') → (∀ σ', mSt a' σ' → P (some (.inl r)) σ') → C0 [.inr (.inl 0), .inl k] (σ) P
theorem eX5_reset : iX5_reset kX5_reset := by
  intro σ a k r a' P h0 h1 hz
  exact ⟨σ, a, k, r, a', h0, h1, rfl, rfl, hz⟩
theorem oX5_reset (l : Launch) : zOK l RX5 cX5_reset rX5_reset (some .int) (tX5_reset, fX5, gX5, [(38, 3, 100, kX5_within)], [], 1) := ⟨tX5_reset_ok, fX5_ok, gX5_ok, List.forall_mem_cons.mpr ⟨⟨yX5_within, cX5_within, 3, (some .boolean), rX5_within, zX5_within l, by decide +kernel, ykX5_within, lkX5_38⟩, fun _ h => absurd h List.not_mem_nil⟩, by decide +kernel, rfl⟩
set_option maxRecDepth 100000 in
set_option maxHeartbeats 4000000 in
theorem wX5_reset {CX5_within : zK} (HX5_within : iX5_within CX5_within) {σ : zS} {a : AS} {k : Int32} {r : Int32} {a' : AS} {P : zP} (hσ : mSt a σ) (hr : rReset k a r a') (hp : ∀ σ', mSt a' σ' → P (some (.inl r)) σ') {Z : zH} (hZ : zcl (tX5_reset, fX5, gX5, [(38, 3, 100, CX5_within)], [], 1) P Z) : Z (σ) 0 [some (.inr (.inl 0)), some (.inl k), none, none] [] := by
  have hσ0 := hσ
  obtain ⟨n, K, L, F, ob⟩ := a
  obtain ⟨yn, ycap, ych, ycf, yct, ycw, yfl, ysd, ypa, yla, ybw, ywo, yns, ynw, rfl, hG, hR, hF, hT⟩ := hσ
  dsimp only at hG hR hF hT
  have hn1 := hG.2.1
  have hn2 := hG.2.2.1
  have loop : ∀ j, k = nI j → 2 ≤ j → j ≤ 12 → (∀ σ', mSt (j, fun _ _ => 0, [], 0, none) σ' → P (some (.inl (nI n))) σ') → ∀ x, x ≤ 144 → ∀ cap', (∀ y, y < x → cap' y = 0) → Z (MW (k) (cap') ych ycf yct ycw yfl ysd ypa yla ybw ywo yns ynw) 25 [some (.inr (.inl 0)), some (.inl k), some (.inl (nI n)), some (.inl (nI x))] [] := by
    intro j hk hj1 hj2 hP
    subst hk
    refine dn (Q := fun x => ∀ cap', (∀ y, y < x → cap' y = 0) → Z (MW (nI j) (cap') ych ycf yct ycw yfl ysd ypa yla ybw ywo yns ynw) 25 [some (.inr (.inl 0)), some (.inl (nI j)), some (.inl (nI n)), some (.inl (nI x))] []) ?_ ?_
    · intro cap' h
      refine hZ [] 40 _ _ _ _ ?_
      refine pk_le 144 144 (fun _ => ?_) (fun c => absurd c (by omega))
      refine And.intro (Or.inl rfl) ?_
      exact hP _ (mSt_mk ⟨rfl, hj1, hj2, fun x y hx hy => by rw [h _ (by omega)]; rfl, gK_0 j⟩ ⟨rfl, by simp, fun i e he => by simp at he, fun e he => by cases he⟩ rfl (Or.inl ⟨rfl, rfl⟩))
    · intro x hx ih cap' h
      refine hZ [25] 40 _ _ _ _ ?_
      refine pk_le 144 x (fun c => absurd c (by omega)) (fun _ => ?_)
      refine And.intro (in144 hx) ?_
      rw [cl144 hx]
      have h9 := ih (upd cap' x 0) (fun y hy => by
        by_cases e : y = x
        · subst e; rw [pk_us]
        · rw [pk_un e]; exact h y (by omega))
      rw [nI_succ x] at h9
      exact h9
  refine hZ [25] 60 _ _ _ _ ?_
  refine HX5_within ?_
  refine bn (fun h => ?_) (fun h => ?_)
  · have h := of_decide_eq_true h
    rcases hr with ⟨j, hj1, hj2, hk, rfl, rfl⟩ | ⟨q, -, -⟩
    · rw [← hG.1]
      exact loop j hk hj1 hj2 hp 0 (by omega) ycap (fun y hy => absurd hy (by omega))
    · exact absurd h q
  · have h := of_decide_eq_false h
    rcases hr with ⟨j, hj1, hj2, rfl, -, -⟩ | ⟨-, rfl, rfl⟩
    · exact absurd ⟨nI_le (a := 2) hj1 (by omega), nI_le (b := 12) hj2 (by omega)⟩ h
    · exact hp _ hσ0
theorem zX5_reset (l : Launch) : zMet l yX5_reset cX5_reset 4 (some .int) rX5_reset kX5_reset := zMet_of (by decide) ⟨rfl, rfl⟩ (oX5_reset l) (fun as0 st0 P h => by
  obtain ⟨σ, a, k, r, a', h0, h1, rfl, rfl, hz⟩ := h
  exact ⟨Nat.le_of_ble_eq_true rfl, fun Z hZ => wX5_reset eX5_within h0 h1 hz hZ⟩)

/-- setCapacity(u, v, c) -/
def kX5_setCapacity : zK := fun as0 st0 P => ∃ σ : zS, ∃ a : AS, ∃ u : Int32, ∃ v : Int32, ∃ c : Int32, ∃ r : Int32, ∃ a' : AS, (mSt a σ) ∧ (rSet u v c a r a') ∧ as0 = [.inr (.inl 0), .inl u, .inl v, .inl c] ∧ st0 = σ ∧ (∀ σ', mSt a' σ' → P (some (.inl r)) σ')
def iX5_setCapacity (C0 : zK) : Prop := ∀ {σ : zS} {a : AS} {u : Int32} {v : Int32} {c : Int32} {r : Int32} {a' : AS} {P : zP}, (mSt a σ) → (rSet u v c a r a') → (∀ σ', mSt a' σ' → P (some (.inl r)) σ') → C0 [.inr (.inl 0), .inl u, .inl v, .inl c] (σ) P
theorem eX5_setCapacity : iX5_setCapacity kX5_setCapacity := by
  intro σ a u v c r a' P h0 h1 hz
  exact ⟨σ, a, u, v, c, r, a', h0, h1, rfl, rfl, hz⟩
theorem oX5_setCapacity (l : Launch) : zOK l RX5 cX5_setCapacity rX5_setCapacity (some .int) (tX5_setCapacity, fX5, gX5, [(56, 2, 5, kX5_twoBarred), (38, 3, 100, kX5_within), (60, 3, 5, kX5_keepChange), (64, 3, 5, kX5_putCapacity)], [], 1) := ⟨tX5_setCapacity_ok, fX5_ok, gX5_ok, List.forall_mem_cons.mpr ⟨⟨yX5_twoBarred, cX5_twoBarred, 3, (some .int), rX5_twoBarred, zX5_twoBarred l, by decide +kernel, ykX5_twoBarred, lkX5_56⟩, List.forall_mem_cons.mpr ⟨⟨yX5_within, cX5_within, 3, (some .boolean), rX5_within, zX5_within l, by decide +kernel, ykX5_within, lkX5_38⟩, List.forall_mem_cons.mpr ⟨⟨yX5_keepChange, cX5_keepChange, 5, none, rX5_keepChange, zX5_keepChange l, by decide +kernel, ykX5_keepChange, lkX5_60⟩, List.forall_mem_cons.mpr ⟨⟨yX5_putCapacity, cX5_putCapacity, 4, none, rX5_putCapacity, zX5_putCapacity l, by decide +kernel, ykX5_putCapacity, lkX5_64⟩, fun _ h => absurd h List.not_mem_nil⟩⟩⟩⟩, by decide +kernel, rfl⟩
set_option maxRecDepth 100000 in
set_option maxHeartbeats 4000000 in
theorem wX5_setCapacity {CX5_twoBarred : zK} (HX5_twoBarred : iX5_twoBarred CX5_twoBarred) {CX5_within : zK} (HX5_within : iX5_within CX5_within) {CX5_keepChange : zK} (HX5_keepChange : iX5_keepChange CX5_keepChange) {CX5_putCapacity : zK} (HX5_putCapacity : iX5_putCapacity CX5_putCapacity) {σ : zS} {a : AS} {u : Int32} {v : Int32} {c : Int32} {r : Int32} {a' : AS} {P : zP} (hσ : mSt a σ) (hr : rSet u v c a r a') (hp : ∀ σ', mSt a' σ' → P (some (.inl r)) σ') {Z : zH} (hZ : zcl (tX5_setCapacity, fX5, gX5, [(56, 2, 5, CX5_twoBarred), (38, 3, 100, CX5_within), (60, 3, 5, CX5_keepChange), (64, 3, 5, CX5_putCapacity)], [], 1) P Z) : Z (σ) 0 [some (.inr (.inl 0)), some (.inl u), some (.inl v), some (.inl c), none, none] [] := by
  have hσ0 := hσ
  obtain ⟨n, K, L, F, ob⟩ := a
  obtain ⟨yn, ycap, ych, ycf, yct, ycw, yfl, ysd, ypa, yla, ybw, ywo, yns, ynw, rfl, hG, hR, hF, hT⟩ := hσ
  dsimp only at hG hR hF hT
  have hn1 := hG.2.1
  have hn2 := hG.2.2.1
  refine hZ [] 90 _ _ _ _ ?_
  refine HX5_twoBarred hG.1 hn1 hn2 ?_
  rcases hr with ⟨e, rfl, rfl⟩ | ⟨e, q, rfl, rfl⟩ | ⟨i, j, w, hij, hw, rfl, rfl, rfl⟩
  · refine And.intro (fun c => absurd c (pe_neg e)) (fun _ => ?_)
    exact hp _ hσ0
  · refine And.intro (fun _ => ?_) (fun c => absurd (by rw [e]; decide) c)
    refine HX5_within ?_
    rw [decide_eq_false q]
    exact And.intro (fun c => absurd rfl c) (fun _ => hp _ hσ0)
  · have e := okP_pe hn2 hij
    obtain ⟨hi, hj, hne, rfl, rfl⟩ := hij
    dsimp only at hi hj
    refine And.intro (fun _ => ?_) (fun c => absurd (by rw [e]; decide) c)
    refine HX5_within ?_
    rw [decide_eq_true (show (0 : Int32) ≤ nI w ∧ nI w ≤ 999 from ⟨nI_pos' (by omega), nI_le (b := 999) hw (by omega)⟩)]
    refine And.intro (fun _ => ?_) (fun c => absurd c (by decide))
    refine And.intro (by rw [ix12]; exact in144 (by omega)) ?_
    rw [ix12, cl144 (by omega), hG.2.2.2.1 i j (by omega) (by omega)]
    refine HX5_keepChange hR rfl rfl rfl hi hj hne (hG.2.2.2.2.1 i j) (fun cf' ct' cw' ch' hR' => ?_)
    refine HX5_putCapacity rfl rfl (by omega) (by omega) (fun cap' hc => ?_)
    exact hp _ (mSt_mk (mG_put hG hi hj hne hw rfl hc) hR' hF hT)
theorem zX5_setCapacity (l : Launch) : zMet l yX5_setCapacity cX5_setCapacity 6 (some .int) rX5_setCapacity kX5_setCapacity := zMet_of (by decide) ⟨rfl, rfl⟩ (oX5_setCapacity l) (fun as0 st0 P h => by
  obtain ⟨σ, a, u, v, c, r, a', h0, h1, rfl, rfl, hz⟩ := h
  exact ⟨Nat.le_of_ble_eq_true rfl, fun Z hZ => wX5_setCapacity eX5_twoBarred eX5_within eX5_keepChange eX5_putCapacity h0 h1 hz hZ⟩)

/-- undo() -/
def kX5_undo : zK := fun as0 st0 P => ∃ σ : zS, ∃ a : AS, ∃ r : Int32, ∃ a' : AS, (mSt a σ) ∧ (rUndo a r a') ∧ as0 = [.inr (.inl 0)] ∧ st0 = σ ∧ (∀ σ', mSt a' σ' → P (some (.inl r)) σ')
def iX5_undo (C0 : zK) : Prop := ∀ {σ : zS} {a : AS} {r : Int32} {a' : AS} {P : zP}, (mSt a σ) → (rUndo a r a') → (∀ σ', mSt a' σ' → P (some (.inl r)) σ') → C0 [.inr (.inl 0)] (σ) P
theorem eX5_undo : iX5_undo kX5_undo := by
  intro σ a r a' P h0 h1 hz
  exact ⟨σ, a, r, a', h0, h1, rfl, rfl, hz⟩
theorem oX5_undo (l : Launch) : zOK l RX5 cX5_undo rX5_undo (some .int) (tX5_undo, fX5, gX5, [(64, 3, 5, kX5_putCapacity)], [], 1) := ⟨tX5_undo_ok, fX5_ok, gX5_ok, List.forall_mem_cons.mpr ⟨⟨yX5_putCapacity, cX5_putCapacity, 4, none, rX5_putCapacity, zX5_putCapacity l, by decide +kernel, ykX5_putCapacity, lkX5_64⟩, fun _ h => absurd h List.not_mem_nil⟩, by decide +kernel, rfl⟩
set_option maxRecDepth 100000 in
set_option maxHeartbeats 4000000 in
theorem wX5_undo {CX5_putCapacity : zK} (HX5_putCapacity : iX5_putCapacity CX5_putCapacity) {σ : zS} {a : AS} {r : Int32} {a' : AS} {P : zP} (hσ : mSt a σ) (hr : rUndo a r a') (hp : ∀ σ', mSt a' σ' → P (some (.inl r)) σ') {Z : zH} (hZ : zcl (tX5_undo, fX5, gX5, [(64, 3, 5, CX5_putCapacity)], [], 1) P Z) : Z (σ) 0 [some (.inr (.inl 0))] [] := by
  have hσ0 := hσ
  obtain ⟨n, K, L, F, ob⟩ := a
  obtain ⟨yn, ycap, ych, ycf, yct, ycw, yfl, ysd, ypa, yla, ybw, ywo, yns, ynw, rfl, hG, hR, hF, hT⟩ := hσ
  dsimp only at hG hR hF hT
  have hn1 := hG.2.1
  have hn2 := hG.2.2.1
  refine hZ [] 60 _ _ _ _ ?_
  obtain ⟨hch, hl, h1, h2⟩ := hR
  subst hch
  rcases hr with ⟨e, rfl, rfl⟩ | ⟨i, j, w, L', e, rfl, rfl⟩
  · dsimp only at e
    subst e
    exact And.intro (fun c => absurd rfl c) (fun _ => hp _ hσ0)
  · dsimp only at e
    subst e
    rw [List.length_cons] at hl
    obtain ⟨hi, hj, hij, hw⟩ := h2 _ List.mem_cons_self
    dsimp only at hi hj hij hw
    have h0 := h1 0 _ rfl
    rw [List.length_cons, show L'.length + 1 - 1 - 0 = L'.length by omega] at h0
    dsimp only at h0
    refine And.intro (fun _ => ?_) (fun c => absurd c (nI_ne0 (by simp) (by rw [List.length_cons]; omega)))
    rw [List.length_cons]
    refine And.intro (by rw [nI_pred]; exact in40 (by omega)) ?_
    rw [nI_pred, cl40 (by omega), h0.1]
    refine And.intro (in40 (by omega)) ?_
    rw [cl40 (by omega), h0.2.1]
    refine And.intro (in40 (by omega)) ?_
    rw [cl40 (by omega), h0.2.2]
    refine HX5_putCapacity rfl rfl (by omega) (by omega) (fun cap' hc => ?_)
    refine hp _ (mSt_mk (mG_put hG hi hj hij hw rfl hc) ⟨rfl, by omega, fun x e he => ?_, fun e he => h2 e (List.mem_cons_of_mem _ he)⟩ hF hT)
    have hx := (List.getElem?_eq_some_iff.mp he).1
    have h3 := h1 (x + 1) e (by rw [List.getElem?_cons_succ]; exact he)
    rw [List.length_cons, show L'.length + 1 - 1 - (x + 1) = L'.length - 1 - x by omega] at h3
    exact h3
theorem zX5_undo (l : Launch) : zMet l yX5_undo cX5_undo 1 (some .int) rX5_undo kX5_undo := zMet_of (by decide) ⟨rfl, rfl⟩ (oX5_undo l) (fun as0 st0 P h => by
  obtain ⟨σ, a, r, a', h0, h1, rfl, rfl, hz⟩ := h
  exact ⟨Nat.le_of_ble_eq_true rfl, fun Z hZ => wX5_undo eX5_putCapacity h0 h1 hz hZ⟩)

/-- capacity(u, v) -/
def kX5_capacity : zK := fun as0 st0 P => ∃ σ : zS, ∃ a : AS, ∃ u : Int32, ∃ v : Int32, ∃ r : Int32, ∃ a' : AS, (mSt a σ) ∧ (rCap u v a r a') ∧ as0 = [.inr (.inl 0), .inl u, .inl v] ∧ st0 = σ ∧ (∀ σ', mSt a' σ' → P (some (.inl r)) σ')
def iX5_capacity (C0 : zK) : Prop := ∀ {σ : zS} {a : AS} {u : Int32} {v : Int32} {r : Int32} {a' : AS} {P : zP}, (mSt a σ) → (rCap u v a r a') → (∀ σ', mSt a' σ' → P (some (.inl r)) σ') → C0 [.inr (.inl 0), .inl u, .inl v] (σ) P
theorem eX5_capacity : iX5_capacity kX5_capacity := by
  intro σ a u v r a' P h0 h1 hz
  exact ⟨σ, a, u, v, r, a', h0, h1, rfl, rfl, hz⟩
theorem oX5_capacity (l : Launch) : zOK l RX5 cX5_capacity rX5_capacity (some .int) (tX5_capacity, fX5, gX5, [(56, 2, 5, kX5_twoBarred)], [], 1) := ⟨tX5_capacity_ok, fX5_ok, gX5_ok, List.forall_mem_cons.mpr ⟨⟨yX5_twoBarred, cX5_twoBarred, 3, (some .int), rX5_twoBarred, zX5_twoBarred l, by decide +kernel, ykX5_twoBarred, lkX5_56⟩, fun _ h => absurd h List.not_mem_nil⟩, by decide +kernel, rfl⟩
set_option maxRecDepth 100000 in
set_option maxHeartbeats 4000000 in
theorem wX5_capacity {CX5_twoBarred : zK} (HX5_twoBarred : iX5_twoBarred CX5_twoBarred) {σ : zS} {a : AS} {u : Int32} {v : Int32} {r : Int32} {a' : AS} {P : zP} (hσ : mSt a σ) (hr : rCap u v a r a') (hp : ∀ σ', mSt a' σ' → P (some (.inl r)) σ') {Z : zH} (hZ : zcl (tX5_capacity, fX5, gX5, [(56, 2, 5, CX5_twoBarred)], [], 1) P Z) : Z (σ) 0 [some (.inr (.inl 0)), some (.inl u), some (.inl v), none] [] := by
  have hσ0 := hσ
  obtain ⟨n, K, L, F, ob⟩ := a
  obtain ⟨yn, ycap, ych, ycf, yct, ycw, yfl, ysd, ypa, yla, ybw, ywo, yns, ynw, rfl, hG, hR, hF, hT⟩ := hσ
  dsimp only at hG hR hF hT
  have hn1 := hG.2.1
  have hn2 := hG.2.2.1
  refine hZ [] 90 _ _ _ _ ?_
  refine HX5_twoBarred hG.1 hn1 hn2 ?_
  obtain ⟨rfl, hr⟩ := hr
  rcases hr with ⟨e, rfl⟩ | ⟨i, j, hij, rfl⟩
  · refine And.intro (fun c => absurd c (pe_neg e)) (fun _ => ?_)
    exact hp _ hσ0
  · have e := okP_pe hn2 hij
    obtain ⟨hi, hj, hne, rfl, rfl⟩ := hij
    dsimp only at hi hj e
    refine And.intro (fun _ => ?_) (fun c => absurd (by rw [e]; decide) c)
    refine And.intro (by rw [ix12]; exact in144 (by omega)) ?_
    rw [ix12, cl144 (by omega), hG.2.2.2.1 i j (by omega) (by omega)]
    exact hp _ hσ0
theorem zX5_capacity (l : Launch) : zMet l yX5_capacity cX5_capacity 4 (some .int) rX5_capacity kX5_capacity := zMet_of (by decide) ⟨rfl, rfl⟩ (oX5_capacity l) (fun as0 st0 P h => by
  obtain ⟨σ, a, u, v, r, a', h0, h1, rfl, rfl, hz⟩ := h
  exact ⟨Nat.le_of_ble_eq_true rfl, fun Z hZ => wX5_capacity eX5_twoBarred h0 h1 hz hZ⟩)

/-- count(w) -/
def kX5_count : zK := fun as0 st0 P => ∃ σ : zS, ∃ a : AS, ∃ w : Int32, ∃ r : Int32, ∃ a' : AS, (mSt a σ) ∧ (rCount w a r a') ∧ as0 = [.inr (.inl 0), .inl w] ∧ st0 = σ ∧ (∀ σ', mSt a' σ' → P (some (.inl r)) σ')
def iX5_count (C0 : zK) : Prop := ∀ {σ : zS} {a : AS} {w : Int32} {r : Int32} {a' : AS} {P : zP}, (mSt a σ) → (rCount w a r a') → (∀ σ', mSt a' σ' → P (some (.inl r)) σ') → C0 [.inr (.inl 0), .inl w] (σ) P
theorem eX5_count : iX5_count kX5_count := by
  intro σ a w r a' P h0 h1 hz
  exact ⟨σ, a, w, r, a', h0, h1, rfl, rfl, hz⟩
theorem oX5_count (l : Launch) : zOK l RX5 cX5_count rX5_count (some .int) (tX5_count, fX5, gX5, [(67, 0, 5, kX5_pairs)], [], 1) := ⟨tX5_count_ok, fX5_ok, gX5_ok, List.forall_mem_cons.mpr ⟨⟨yX5_pairs, cX5_pairs, 4, (some .int), rX5_pairs, zX5_pairs l, by decide +kernel, ykX5_pairs, lkX5_67⟩, fun _ h => absurd h List.not_mem_nil⟩, by decide +kernel, rfl⟩
set_option maxRecDepth 100000 in
set_option maxHeartbeats 4000000 in
theorem wX5_count {CX5_pairs : zK} (HX5_pairs : iX5_pairs CX5_pairs) {σ : zS} {a : AS} {w : Int32} {r : Int32} {a' : AS} {P : zP} (hσ : mSt a σ) (hr : rCount w a r a') (hp : ∀ σ', mSt a' σ' → P (some (.inl r)) σ') {Z : zH} (hZ : zcl (tX5_count, fX5, gX5, [(67, 0, 5, CX5_pairs)], [], 1) P Z) : Z (σ) 0 [some (.inr (.inl 0)), some (.inl w)] [] := by
  have hσ0 := hσ
  obtain ⟨n, K, L, F, ob⟩ := a
  obtain ⟨yn, ycap, ych, ycf, yct, ycw, yfl, ysd, ypa, yla, ybw, ywo, yns, ynw, rfl, hG, hR, hF, hT⟩ := hσ
  dsimp only at hG hR hF hT
  have hn1 := hG.2.1
  have hn2 := hG.2.2.1
  obtain ⟨rfl, hr⟩ := hr
  refine hZ [] 60 _ _ _ _ ?_
  rcases hr with ⟨rfl, rfl⟩ | ⟨rfl, rfl⟩ | ⟨rfl, rfl⟩ | ⟨rfl, rfl⟩ | ⟨q, rfl⟩
  · refine And.intro (fun c => absurd c (by decide)) (fun off _ _ ho => ?_)
    obtain rfl : (31 : Int) = off := Option.some.inj ho
    have h9 := hp _ hσ0
    try dsimp only at h9
    rw [hG.1] at h9
    exact h9
  · refine And.intro (fun c => absurd c (by decide)) (fun off _ _ ho => ?_)
    obtain rfl : (36 : Int) = off := Option.some.inj ho
    refine HX5_pairs hG ?_
    exact hp _ hσ0
  · refine And.intro (fun c => absurd c (by decide)) (fun off _ _ ho => ?_)
    obtain rfl : (41 : Int) = off := Option.some.inj ho
    have h9 := hp _ hσ0
    try dsimp only at h9
    rw [hR.1] at h9
    exact h9
  · refine And.intro (fun c => absurd c (by decide)) (fun off _ _ ho => ?_)
    obtain rfl : (46 : Int) = off := Option.some.inj ho
    have h9 := hp _ hσ0
    try dsimp only at h9
    rw [hF] at h9
    exact h9
  · refine And.intro (fun _ => hp _ hσ0) (fun off c1 c2 _ => ?_)
    rcases q with q | q
    · exact absurd q c1
    · exact absurd q c2
theorem zX5_count (l : Launch) : zMet l yX5_count cX5_count 2 (some .int) rX5_count kX5_count := zMet_of (by decide) ⟨rfl, rfl⟩ (oX5_count l) (fun as0 st0 P h => by
  obtain ⟨σ, a, w, r, a', h0, h1, rfl, rfl, hz⟩ := h
  exact ⟨Nat.le_of_ble_eq_true rfl, fun Z hZ => wX5_count eX5_pairs h0 h1 hz hZ⟩)

/-- cutWeight(x) -/
def kX5_cutWeight : zK := fun as0 st0 P => ∃ σ : zS, ∃ a : AS, ∃ x : Int32, ∃ r : Int32, ∃ a' : AS, (mSt a σ) ∧ (rCutW x a r a') ∧ as0 = [.inr (.inl 0), .inl x] ∧ st0 = σ ∧ (∀ σ', mSt a' σ' → P (some (.inl r)) σ')
def iX5_cutWeight (C0 : zK) : Prop := ∀ {σ : zS} {a : AS} {x : Int32} {r : Int32} {a' : AS} {P : zP}, (mSt a σ) → (rCutW x a r a') → (∀ σ', mSt a' σ' → P (some (.inl r)) σ') → C0 [.inr (.inl 0), .inl x] (σ) P
theorem eX5_cutWeight : iX5_cutWeight kX5_cutWeight := by
  intro σ a x r a' P h0 h1 hz
  exact ⟨σ, a, x, r, a', h0, h1, rfl, rfl, hz⟩
theorem oX5_cutWeight (l : Launch) : zOK l RX5 cX5_cutWeight rX5_cutWeight (some .int) (tX5_cutWeight, fX5, gX5, [(78, 1, 5, kX5_isCut), (81, 1, 5, kX5_weigh)], [], 1) := ⟨tX5_cutWeight_ok, fX5_ok, gX5_ok, List.forall_mem_cons.mpr ⟨⟨yX5_isCut, cX5_isCut, 2, (some .boolean), rX5_isCut, zX5_isCut l, by decide +kernel, ykX5_isCut, lkX5_78⟩, List.forall_mem_cons.mpr ⟨⟨yX5_weigh, cX5_weigh, 5, (some .int), rX5_weigh, zX5_weigh l, by decide +kernel, ykX5_weigh, lkX5_81⟩, fun _ h => absurd h List.not_mem_nil⟩⟩, by decide +kernel, rfl⟩
set_option maxRecDepth 100000 in
set_option maxHeartbeats 4000000 in
theorem wX5_cutWeight {CX5_isCut : zK} (HX5_isCut : iX5_isCut CX5_isCut) {CX5_weigh : zK} (HX5_weigh : iX5_weigh CX5_weigh) {σ : zS} {a : AS} {x : Int32} {r : Int32} {a' : AS} {P : zP} (hσ : mSt a σ) (hr : rCutW x a r a') (hp : ∀ σ', mSt a' σ' → P (some (.inl r)) σ') {Z : zH} (hZ : zcl (tX5_cutWeight, fX5, gX5, [(78, 1, 5, CX5_isCut), (81, 1, 5, CX5_weigh)], [], 1) P Z) : Z (σ) 0 [some (.inr (.inl 0)), some (.inl x)] [] := by
  have hσ0 := hσ
  obtain ⟨n, K, L, F, ob⟩ := a
  obtain ⟨yn, ycap, ych, ycf, yct, ycw, yfl, ysd, ypa, yla, ybw, ywo, yns, ynw, rfl, hG, hR, hF, hT⟩ := hσ
  dsimp only at hG hR hF hT
  have hn1 := hG.2.1
  have hn2 := hG.2.2.1
  obtain ⟨rfl, hr⟩ := hr
  have p12n := p12 hn2
  refine hZ [] 60 _ _ _ _ ?_
  refine HX5_isCut hG.1 hn1 hn2 ?_
  rcases hr with ⟨e, rfl⟩ | ⟨S, h0, h1, rfl, rfl⟩
  · rw [e]
    exact And.intro (fun _ => hp _ hσ0) (fun c => absurd rfl c)
  · rw [okC_nI hn2 h0 h1]
    refine And.intro (fun c => absurd c (by decide)) (fun _ => ?_)
    dsimp only at h1
    refine HX5_weigh hG rfl (by omega) ?_
    exact hp _ hσ0
theorem zX5_cutWeight (l : Launch) : zMet l yX5_cutWeight cX5_cutWeight 2 (some .int) rX5_cutWeight kX5_cutWeight := zMet_of (by decide) ⟨rfl, rfl⟩ (oX5_cutWeight l) (fun as0 st0 P h => by
  obtain ⟨σ, a, x, r, a', h0, h1, rfl, rfl, hz⟩ := h
  exact ⟨Nat.le_of_ble_eq_true rfl, fun Z hZ => wX5_cutWeight eX5_isCut eX5_weigh h0 h1 hz hZ⟩)

/-- build() -/
def kX5_build : zK := fun as0 st0 P => ∃ σ : zS, ∃ a : AS, ∃ r : Int32, ∃ a' : AS, (mSt a σ) ∧ (rBuild a r a') ∧ as0 = [.inr (.inl 0)] ∧ st0 = σ ∧ (∀ σ', mSt a' σ' → P (some (.inl r)) σ')
def iX5_build (C0 : zK) : Prop := ∀ {σ : zS} {a : AS} {r : Int32} {a' : AS} {P : zP}, (mSt a σ) → (rBuild a r a') → (∀ σ', mSt a' σ' → P (some (.inl r)) σ') → C0 [.inr (.inl 0)] (σ) P
theorem eX5_build : iX5_build kX5_build := by
  intro σ a r a' P h0 h1 hz
  exact ⟨σ, a, r, a', h0, h1, rfl, rfl, hz⟩
theorem oX5_build (l : Launch) : zOK l RX5 cX5_build rX5_build (some .int) (tX5_build, fX5, gX5, [(109, 0, 5, kX5_freshen)], [], 1) := ⟨tX5_build_ok, fX5_ok, gX5_ok, List.forall_mem_cons.mpr ⟨⟨yX5_freshen, cX5_freshen, 1, none, rX5_freshen, zX5_freshen l, by decide +kernel, ykX5_freshen, lkX5_109⟩, fun _ h => absurd h List.not_mem_nil⟩, by decide +kernel, rfl⟩
set_option maxRecDepth 100000 in
set_option maxHeartbeats 4000000 in
theorem wX5_build {CX5_freshen : zK} (HX5_freshen : iX5_freshen CX5_freshen) {σ : zS} {a : AS} {r : Int32} {a' : AS} {P : zP} (hσ : mSt a σ) (hr : rBuild a r a') (hp : ∀ σ', mSt a' σ' → P (some (.inl r)) σ') {Z : zH} (hZ : zcl (tX5_build, fX5, gX5, [(109, 0, 5, CX5_freshen)], [], 1) P Z) : Z (σ) 0 [some (.inr (.inl 0)), none] [] := by
  have hσ0 := hσ
  obtain ⟨n, K, L, F, ob⟩ := a
  obtain ⟨yn, ycap, ych, ycf, yct, ycw, yfl, ysd, ypa, yla, ybw, ywo, yns, ynw, rfl, hG, hR, hF, hT⟩ := hσ
  dsimp only at hG hR hF hT
  have hn1 := hG.2.1
  have hn2 := hG.2.2.1
  obtain ⟨hrF, rfl⟩ := hr
  refine hZ [] 60 _ _ _ _ ?_
  refine HX5_freshen hσ0 (fun a2 σ' hrF2 hc => ?_)
  have e := rF_uniq hrF2 hrF
  subst e
  have hc0 := hc
  obtain ⟨n', K', L', F', ob'⟩ := a2
  obtain ⟨zn, zcap, zch, zcf, zct, zcw, zfl, zsd, zpa, zla, zbw, zwo, zns, znw, rfl, hG', hR', hF', hT'⟩ := hc
  have h9 := hp _ hc0
  dsimp only at hF' h9
  rw [hF', hF] at h9
  exact h9
theorem zX5_build (l : Launch) : zMet l yX5_build cX5_build 2 (some .int) rX5_build kX5_build := zMet_of (by decide) ⟨rfl, rfl⟩ (oX5_build l) (fun as0 st0 P h => by
  obtain ⟨σ, a, r, a', h0, h1, rfl, rfl, hz⟩ := h
  exact ⟨Nat.le_of_ble_eq_true rfl, fun Z hZ => wX5_build eX5_freshen h0 h1 hz hZ⟩)

/-- isFresh() -/
def kX5_isFresh : zK := fun as0 st0 P => ∃ σ : zS, ∃ a : AS, ∃ r : Int32, ∃ a' : AS, (mSt a σ) ∧ (rFresh a r a') ∧ as0 = [.inr (.inl 0)] ∧ st0 = σ ∧ (∀ σ', mSt a' σ' → P (some (.inl r)) σ')
def iX5_isFresh (C0 : zK) : Prop := ∀ {σ : zS} {a : AS} {r : Int32} {a' : AS} {P : zP}, (mSt a σ) → (rFresh a r a') → (∀ σ', mSt a' σ' → P (some (.inl r)) σ') → C0 [.inr (.inl 0)] (σ) P
theorem eX5_isFresh : iX5_isFresh kX5_isFresh := by
  intro σ a r a' P h0 h1 hz
  exact ⟨σ, a, r, a', h0, h1, rfl, rfl, hz⟩
theorem oX5_isFresh (l : Launch) : zOK l RX5 cX5_isFresh rX5_isFresh (some .int) (tX5_isFresh, fX5, gX5, [(102, 0, 5, kX5_isNew)], [], 1) := ⟨tX5_isFresh_ok, fX5_ok, gX5_ok, List.forall_mem_cons.mpr ⟨⟨yX5_isNew, cX5_isNew, 3, (some .boolean), rX5_isNew, zX5_isNew l, by decide +kernel, ykX5_isNew, lkX5_102⟩, fun _ h => absurd h List.not_mem_nil⟩, by decide +kernel, rfl⟩
set_option maxRecDepth 100000 in
set_option maxHeartbeats 4000000 in
theorem wX5_isFresh {CX5_isNew : zK} (HX5_isNew : iX5_isNew CX5_isNew) {σ : zS} {a : AS} {r : Int32} {a' : AS} {P : zP} (hσ : mSt a σ) (hr : rFresh a r a') (hp : ∀ σ', mSt a' σ' → P (some (.inl r)) σ') {Z : zH} (hZ : zcl (tX5_isFresh, fX5, gX5, [(102, 0, 5, CX5_isNew)], [], 1) P Z) : Z (σ) 0 [some (.inr (.inl 0))] [] := by
  have hσ0 := hσ
  obtain ⟨n, K, L, F, ob⟩ := a
  obtain ⟨yn, ycap, ych, ycf, yct, ycw, yfl, ysd, ypa, yla, ybw, ywo, yns, ynw, rfl, hG, hR, hF, hT⟩ := hσ
  dsimp only at hG hR hF hT
  have hn1 := hG.2.1
  have hn2 := hG.2.2.1
  obtain ⟨rfl, hr⟩ := hr
  refine hZ [] 60 _ _ _ _ ?_
  refine HX5_isNew hG hT (fun b hb => ?_)
  refine bz (fun h => ?_) (fun h => ?_)
  · rcases hr with ⟨q, -⟩ | ⟨-, rfl⟩
    · rw [hb.mpr q] at h; cases h
    · exact hp _ hσ0
  · rcases hr with ⟨-, rfl⟩ | ⟨q, -⟩
    · exact hp _ hσ0
    · exact absurd (hb.mp h) q
theorem zX5_isFresh (l : Launch) : zMet l yX5_isFresh cX5_isFresh 1 (some .int) rX5_isFresh kX5_isFresh := zMet_of (by decide) ⟨rfl, rfl⟩ (oX5_isFresh l) (fun as0 st0 P h => by
  obtain ⟨σ, a, r, a', h0, h1, rfl, rfl, hz⟩ := h
  exact ⟨Nat.le_of_ble_eq_true rfl, fun Z hZ => wX5_isFresh eX5_isNew h0 h1 hz hZ⟩)

/-- parent(k) -/
def kX5_parent : zK := fun as0 st0 P => ∃ σ : zS, ∃ a : AS, ∃ k : Int32, ∃ r : Int32, ∃ a' : AS, (mSt a σ) ∧ (rNode vPa k a r a') ∧ as0 = [.inr (.inl 0), .inl k] ∧ st0 = σ ∧ (∀ σ', mSt a' σ' → P (some (.inl r)) σ')
def iX5_parent (C0 : zK) : Prop := ∀ {σ : zS} {a : AS} {k : Int32} {r : Int32} {a' : AS} {P : zP}, (mSt a σ) → (rNode vPa k a r a') → (∀ σ', mSt a' σ' → P (some (.inl r)) σ') → C0 [.inr (.inl 0), .inl k] (σ) P
theorem eX5_parent : iX5_parent kX5_parent := by
  intro σ a k r a' P h0 h1 hz
  exact ⟨σ, a, k, r, a', h0, h1, rfl, rfl, hz⟩
theorem oX5_parent (l : Launch) : zOK l RX5 cX5_parent rX5_parent (some .int) (tX5_parent, fX5, gX5, [(112, 1, 5, kX5_nodeBarred)], [], 1) := ⟨tX5_parent_ok, fX5_ok, gX5_ok, List.forall_mem_cons.mpr ⟨⟨yX5_nodeBarred, cX5_nodeBarred, 2, (some .int), rX5_nodeBarred, zX5_nodeBarred l, by decide +kernel, ykX5_nodeBarred, lkX5_112⟩, fun _ h => absurd h List.not_mem_nil⟩, by decide +kernel, rfl⟩
set_option maxRecDepth 100000 in
set_option maxHeartbeats 4000000 in
theorem wX5_parent {CX5_nodeBarred : zK} (HX5_nodeBarred : iX5_nodeBarred CX5_nodeBarred) {σ : zS} {a : AS} {k : Int32} {r : Int32} {a' : AS} {P : zP} (hσ : mSt a σ) (hr : rNode vPa k a r a') (hp : ∀ σ', mSt a' σ' → P (some (.inl r)) σ') {Z : zH} (hZ : zcl (tX5_parent, fX5, gX5, [(112, 1, 5, CX5_nodeBarred)], [], 1) P Z) : Z (σ) 0 [some (.inr (.inl 0)), some (.inl k), none] [] := by
  have hσ0 := hσ
  obtain ⟨n, K, L, F, ob⟩ := a
  obtain ⟨yn, ycap, ych, ycf, yct, ycw, yfl, ysd, ypa, yla, ybw, ywo, yns, ynw, rfl, hG, hR, hF, hT⟩ := hσ
  dsimp only at hG hR hF hT
  have hn1 := hG.2.1
  have hn2 := hG.2.2.1
  obtain ⟨rfl, hr⟩ := hr
  refine hZ [] 60 _ _ _ _ ?_
  refine HX5_nodeBarred hG.1 hn1 hn2 hT ⟨fun h => ?_, fun h => ⟨fun h2 => ?_, fun B h2 => ?_⟩⟩
  · refine And.intro (fun c => absurd c (by decide)) (fun _ => ?_)
    rcases hr with ⟨-, rfl⟩ | ⟨q, -, -⟩ | ⟨B, i, -, hi, rfl, -⟩
    · exact hp _ hσ0
    · rw [h] at q; cases q
    · rw [okN_nI (by omega) hi] at h; cases h
  · refine And.intro (fun c => absurd c (by decide)) (fun _ => ?_)
    rcases hr with ⟨q, -⟩ | ⟨-, -, rfl⟩ | ⟨B, i, q, -, -, -⟩
    · rw [h] at q; cases q
    · exact hp _ hσ0
    · dsimp only at q; rw [h2] at q; cases q
  · refine And.intro (fun _ => ?_) (fun c => absurd (by decide) c)
    rcases hr with ⟨q, -⟩ | ⟨-, q, -⟩ | ⟨B', i, q, hi, rfl, rfl⟩
    · rw [h] at q; cases q
    · dsimp only at q; rw [h2] at q; cases q
    · dsimp only at q hi
      rw [h2] at q
      cases q
      rw [h2] at hT
      obtain ⟨-, hB, -, hpa, hla⟩ := mT_some hT
      have hTI := tp_tI B (by omega : 0 < n)
      have h9 := hp _ hσ0
      dsimp only [vPa] at h9
      refine And.intro (fun c => ?_) (fun c => ?_)
      · have h0 : i ≠ 0 := fun e => c (by rw [e]; rfl)
        rw [if_neg h0, ← hpa i hi] at h9
        refine And.intro (in12 (by omega)) ?_
        rw [cl12 (by omega)]
        exact h9
      · have h0 : i = 0 := (nI_eq (by omega) (by omega)).mp (show nI i = nI 0 from c)
        rw [if_pos h0] at h9
        exact h9
theorem zX5_parent (l : Launch) : zMet l yX5_parent cX5_parent 3 (some .int) rX5_parent kX5_parent := zMet_of (by decide) ⟨rfl, rfl⟩ (oX5_parent l) (fun as0 st0 P h => by
  obtain ⟨σ, a, k, r, a', h0, h1, rfl, rfl, hz⟩ := h
  exact ⟨Nat.le_of_ble_eq_true rfl, fun Z hZ => wX5_parent eX5_nodeBarred h0 h1 hz hZ⟩)

/-- label(k) -/
def kX5_label : zK := fun as0 st0 P => ∃ σ : zS, ∃ a : AS, ∃ k : Int32, ∃ r : Int32, ∃ a' : AS, (mSt a σ) ∧ (rNode vLa k a r a') ∧ as0 = [.inr (.inl 0), .inl k] ∧ st0 = σ ∧ (∀ σ', mSt a' σ' → P (some (.inl r)) σ')
def iX5_label (C0 : zK) : Prop := ∀ {σ : zS} {a : AS} {k : Int32} {r : Int32} {a' : AS} {P : zP}, (mSt a σ) → (rNode vLa k a r a') → (∀ σ', mSt a' σ' → P (some (.inl r)) σ') → C0 [.inr (.inl 0), .inl k] (σ) P
theorem eX5_label : iX5_label kX5_label := by
  intro σ a k r a' P h0 h1 hz
  exact ⟨σ, a, k, r, a', h0, h1, rfl, rfl, hz⟩
theorem oX5_label (l : Launch) : zOK l RX5 cX5_label rX5_label (some .int) (tX5_label, fX5, gX5, [(112, 1, 5, kX5_nodeBarred)], [], 1) := ⟨tX5_label_ok, fX5_ok, gX5_ok, List.forall_mem_cons.mpr ⟨⟨yX5_nodeBarred, cX5_nodeBarred, 2, (some .int), rX5_nodeBarred, zX5_nodeBarred l, by decide +kernel, ykX5_nodeBarred, lkX5_112⟩, fun _ h => absurd h List.not_mem_nil⟩, by decide +kernel, rfl⟩
set_option maxRecDepth 100000 in
set_option maxHeartbeats 4000000 in
theorem wX5_label {CX5_nodeBarred : zK} (HX5_nodeBarred : iX5_nodeBarred CX5_nodeBarred) {σ : zS} {a : AS} {k : Int32} {r : Int32} {a' : AS} {P : zP} (hσ : mSt a σ) (hr : rNode vLa k a r a') (hp : ∀ σ', mSt a' σ' → P (some (.inl r)) σ') {Z : zH} (hZ : zcl (tX5_label, fX5, gX5, [(112, 1, 5, CX5_nodeBarred)], [], 1) P Z) : Z (σ) 0 [some (.inr (.inl 0)), some (.inl k), none] [] := by
  have hσ0 := hσ
  obtain ⟨n, K, L, F, ob⟩ := a
  obtain ⟨yn, ycap, ych, ycf, yct, ycw, yfl, ysd, ypa, yla, ybw, ywo, yns, ynw, rfl, hG, hR, hF, hT⟩ := hσ
  dsimp only at hG hR hF hT
  have hn1 := hG.2.1
  have hn2 := hG.2.2.1
  obtain ⟨rfl, hr⟩ := hr
  refine hZ [] 60 _ _ _ _ ?_
  refine HX5_nodeBarred hG.1 hn1 hn2 hT ⟨fun h => ?_, fun h => ⟨fun h2 => ?_, fun B h2 => ?_⟩⟩
  · refine And.intro (fun c => absurd c (by decide)) (fun _ => ?_)
    rcases hr with ⟨-, rfl⟩ | ⟨q, -, -⟩ | ⟨B, i, -, hi, rfl, -⟩
    · exact hp _ hσ0
    · rw [h] at q; cases q
    · rw [okN_nI (by omega) hi] at h; cases h
  · refine And.intro (fun c => absurd c (by decide)) (fun _ => ?_)
    rcases hr with ⟨q, -⟩ | ⟨-, -, rfl⟩ | ⟨B, i, q, -, -, -⟩
    · rw [h] at q; cases q
    · exact hp _ hσ0
    · dsimp only at q; rw [h2] at q; cases q
  · refine And.intro (fun _ => ?_) (fun c => absurd (by decide) c)
    rcases hr with ⟨q, -⟩ | ⟨-, q, -⟩ | ⟨B', i, q, hi, rfl, rfl⟩
    · rw [h] at q; cases q
    · dsimp only at q; rw [h2] at q; cases q
    · dsimp only at q hi
      rw [h2] at q
      cases q
      rw [h2] at hT
      obtain ⟨-, hB, -, hpa, hla⟩ := mT_some hT
      have hTI := tp_tI B (by omega : 0 < n)
      have h9 := hp _ hσ0
      dsimp only [vLa] at h9
      refine And.intro (fun c => ?_) (fun c => ?_)
      · have h0 : i ≠ 0 := fun e => c (by rw [e]; rfl)
        rw [if_neg h0, ← hla i (by omega) hi] at h9
        refine And.intro (in12 (by omega)) ?_
        rw [cl12 (by omega)]
        exact h9
      · have h0 : i = 0 := (nI_eq (by omega) (by omega)).mp (show nI i = nI 0 from c)
        rw [if_pos h0] at h9
        exact h9
theorem zX5_label (l : Launch) : zMet l yX5_label cX5_label 3 (some .int) rX5_label kX5_label := zMet_of (by decide) ⟨rfl, rfl⟩ (oX5_label l) (fun as0 st0 P h => by
  obtain ⟨σ, a, k, r, a', h0, h1, rfl, rfl, hz⟩ := h
  exact ⟨Nat.le_of_ble_eq_true rfl, fun Z hZ => wX5_label eX5_nodeBarred h0 h1 hz hZ⟩)

/-- side(k) -/
def kX5_side : zK := fun as0 st0 P => ∃ σ : zS, ∃ a : AS, ∃ k : Int32, ∃ r : Int32, ∃ a' : AS, (mSt a σ) ∧ (rNode vSi k a r a') ∧ as0 = [.inr (.inl 0), .inl k] ∧ st0 = σ ∧ (∀ σ', mSt a' σ' → P (some (.inl r)) σ')
def iX5_side (C0 : zK) : Prop := ∀ {σ : zS} {a : AS} {k : Int32} {r : Int32} {a' : AS} {P : zP}, (mSt a σ) → (rNode vSi k a r a') → (∀ σ', mSt a' σ' → P (some (.inl r)) σ') → C0 [.inr (.inl 0), .inl k] (σ) P
theorem eX5_side : iX5_side kX5_side := by
  intro σ a k r a' P h0 h1 hz
  exact ⟨σ, a, k, r, a', h0, h1, rfl, rfl, hz⟩
theorem oX5_side (l : Launch) : zOK l RX5 cX5_side rX5_side (some .int) (tX5_side, fX5, gX5, [(112, 1, 5, kX5_nodeBarred), (115, 1, 5, kX5_sideOf)], [], 1) := ⟨tX5_side_ok, fX5_ok, gX5_ok, List.forall_mem_cons.mpr ⟨⟨yX5_nodeBarred, cX5_nodeBarred, 2, (some .int), rX5_nodeBarred, zX5_nodeBarred l, by decide +kernel, ykX5_nodeBarred, lkX5_112⟩, List.forall_mem_cons.mpr ⟨⟨yX5_sideOf, cX5_sideOf, 5, (some .int), rX5_sideOf, zX5_sideOf l, by decide +kernel, ykX5_sideOf, lkX5_115⟩, fun _ h => absurd h List.not_mem_nil⟩⟩, by decide +kernel, rfl⟩
set_option maxRecDepth 100000 in
set_option maxHeartbeats 4000000 in
theorem wX5_side {CX5_nodeBarred : zK} (HX5_nodeBarred : iX5_nodeBarred CX5_nodeBarred) {CX5_sideOf : zK} (HX5_sideOf : iX5_sideOf CX5_sideOf) {σ : zS} {a : AS} {k : Int32} {r : Int32} {a' : AS} {P : zP} (hσ : mSt a σ) (hr : rNode vSi k a r a') (hp : ∀ σ', mSt a' σ' → P (some (.inl r)) σ') {Z : zH} (hZ : zcl (tX5_side, fX5, gX5, [(112, 1, 5, CX5_nodeBarred), (115, 1, 5, CX5_sideOf)], [], 1) P Z) : Z (σ) 0 [some (.inr (.inl 0)), some (.inl k), none] [] := by
  have hσ0 := hσ
  obtain ⟨n, K, L, F, ob⟩ := a
  obtain ⟨yn, ycap, ych, ycf, yct, ycw, yfl, ysd, ypa, yla, ybw, ywo, yns, ynw, rfl, hG, hR, hF, hT⟩ := hσ
  dsimp only at hG hR hF hT
  have hn1 := hG.2.1
  have hn2 := hG.2.2.1
  obtain ⟨rfl, hr⟩ := hr
  refine hZ [] 60 _ _ _ _ ?_
  refine HX5_nodeBarred hG.1 hn1 hn2 hT ⟨fun h => ?_, fun h => ⟨fun h2 => ?_, fun B h2 => ?_⟩⟩
  · refine And.intro (fun c => absurd c (by decide)) (fun _ => ?_)
    rcases hr with ⟨-, rfl⟩ | ⟨q, -, -⟩ | ⟨B, i, -, hi, rfl, -⟩
    · exact hp _ hσ0
    · rw [h] at q; cases q
    · rw [okN_nI (by omega) hi] at h; cases h
  · refine And.intro (fun c => absurd c (by decide)) (fun _ => ?_)
    rcases hr with ⟨q, -⟩ | ⟨-, -, rfl⟩ | ⟨B, i, q, -, -, -⟩
    · rw [h] at q; cases q
    · exact hp _ hσ0
    · dsimp only at q; rw [h2] at q; cases q
  · refine And.intro (fun _ => ?_) (fun c => absurd (by decide) c)
    rcases hr with ⟨q, -⟩ | ⟨-, q, -⟩ | ⟨B', i, q, hi, rfl, rfl⟩
    · rw [h] at q; cases q
    · dsimp only at q; rw [h2] at q; cases q
    · dsimp only at q hi
      rw [h2] at q
      cases q
      rw [h2] at hT
      obtain ⟨-, hB, -, hpa, hla⟩ := mT_some hT
      have hTI := tp_tI B (by omega : 0 < n)
      have h9 := hp _ hσ0
      refine HX5_sideOf hG.1 hn2 hpa hTI rfl hi ?_
      exact h9
theorem zX5_side (l : Launch) : zMet l yX5_side cX5_side 3 (some .int) rX5_side kX5_side := zMet_of (by decide) ⟨rfl, rfl⟩ (oX5_side l) (fun as0 st0 P h => by
  obtain ⟨σ, a, k, r, a', h0, h1, rfl, rfl, hz⟩ := h
  exact ⟨Nat.le_of_ble_eq_true rfl, fun Z hZ => wX5_side eX5_nodeBarred eX5_sideOf h0 h1 hz hZ⟩)

/-- loss() -/
def kX5_loss : zK := fun as0 st0 P => ∃ σ : zS, ∃ a : AS, ∃ r : Int32, ∃ a' : AS, (mSt a σ) ∧ (rLoss a r a') ∧ as0 = [.inr (.inl 0)] ∧ st0 = σ ∧ (∀ σ', mSt a' σ' → P (some (.inl r)) σ')
def iX5_loss (C0 : zK) : Prop := ∀ {σ : zS} {a : AS} {r : Int32} {a' : AS} {P : zP}, (mSt a σ) → (rLoss a r a') → (∀ σ', mSt a' σ' → P (some (.inl r)) σ') → C0 [.inr (.inl 0)] (σ) P
theorem eX5_loss : iX5_loss kX5_loss := by
  intro σ a r a' P h0 h1 hz
  exact ⟨σ, a, r, a', h0, h1, rfl, rfl, hz⟩
theorem oX5_loss (l : Launch) : zOK l RX5 cX5_loss rX5_loss (some .int) (tX5_loss, fX5, gX5, [(118, 0, 5, kX5_lossOf)], [], 1) := ⟨tX5_loss_ok, fX5_ok, gX5_ok, List.forall_mem_cons.mpr ⟨⟨yX5_lossOf, cX5_lossOf, 5, (some .int), rX5_lossOf, zX5_lossOf l, by decide +kernel, ykX5_lossOf, lkX5_118⟩, fun _ h => absurd h List.not_mem_nil⟩, by decide +kernel, rfl⟩
set_option maxRecDepth 100000 in
set_option maxHeartbeats 4000000 in
theorem wX5_loss {CX5_lossOf : zK} (HX5_lossOf : iX5_lossOf CX5_lossOf) {σ : zS} {a : AS} {r : Int32} {a' : AS} {P : zP} (hσ : mSt a σ) (hr : rLoss a r a') (hp : ∀ σ', mSt a' σ' → P (some (.inl r)) σ') {Z : zH} (hZ : zcl (tX5_loss, fX5, gX5, [(118, 0, 5, CX5_lossOf)], [], 1) P Z) : Z (σ) 0 [some (.inr (.inl 0))] [] := by
  have hσ0 := hσ
  obtain ⟨n, K, L, F, ob⟩ := a
  obtain ⟨yn, ycap, ych, ycf, yct, ycw, yfl, ysd, ypa, yla, ybw, ywo, yns, ynw, rfl, hG, hR, hF, hT⟩ := hσ
  dsimp only at hG hR hF hT
  have hn1 := hG.2.1
  have hn2 := hG.2.2.1
  obtain ⟨rfl, hr⟩ := hr
  refine hZ [] 60 _ _ _ _ ?_
  rcases hr with ⟨q, rfl⟩ | ⟨B, q, rfl⟩
  · rcases mT_0 hT with ⟨e, -⟩ | ⟨-, B, e2⟩
    · exact And.intro (fun _ => hp _ hσ0) (fun c => absurd e c)
    · dsimp only at q; rw [e2] at q; cases q
  · rcases mT_0 hT with ⟨-, e2⟩ | ⟨e, -⟩
    · dsimp only at q; rw [e2] at q; cases q
    · refine And.intro (fun c => absurd c (by rw [e]; decide)) (fun _ => ?_)
      dsimp only at q
      rw [q] at hT
      refine HX5_lossOf hG hT ?_
      exact hp _ hσ0
theorem zX5_loss (l : Launch) : zMet l yX5_loss cX5_loss 1 (some .int) rX5_loss kX5_loss := zMet_of (by decide) ⟨rfl, rfl⟩ (oX5_loss l) (fun as0 st0 P h => by
  obtain ⟨σ, a, r, a', h0, h1, rfl, rfl, hz⟩ := h
  exact ⟨Nat.le_of_ble_eq_true rfl, fun Z hZ => wX5_loss eX5_lossOf h0 h1 hz hZ⟩)

/-- lowerBound(s, t) -/
def kX5_lowerBound : zK := fun as0 st0 P => ∃ σ : zS, ∃ a : AS, ∃ s : Int32, ∃ t : Int32, ∃ r : Int32, ∃ a' : AS, (mSt a σ) ∧ (rPair lob s t a r a') ∧ as0 = [.inr (.inl 0), .inl s, .inl t] ∧ st0 = σ ∧ (∀ σ', mSt a' σ' → P (some (.inl r)) σ')
def iX5_lowerBound (C0 : zK) : Prop := ∀ {σ : zS} {a : AS} {s : Int32} {t : Int32} {r : Int32} {a' : AS} {P : zP}, (mSt a σ) → (rPair lob s t a r a') → (∀ σ', mSt a' σ' → P (some (.inl r)) σ') → C0 [.inr (.inl 0), .inl s, .inl t] (σ) P
theorem eX5_lowerBound : iX5_lowerBound kX5_lowerBound := by
  intro σ a s t r a' P h0 h1 hz
  exact ⟨σ, a, s, t, r, a', h0, h1, rfl, rfl, hz⟩
theorem oX5_lowerBound (l : Launch) : zOK l RX5 cX5_lowerBound rX5_lowerBound (some .int) (tX5_lowerBound, fX5, gX5, [(128, 2, 5, kX5_pathBarred), (131, 2, 5, kX5_lowerOf)], [], 1) := ⟨tX5_lowerBound_ok, fX5_ok, gX5_ok, List.forall_mem_cons.mpr ⟨⟨yX5_pathBarred, cX5_pathBarred, 4, (some .int), rX5_pathBarred, zX5_pathBarred l, by decide +kernel, ykX5_pathBarred, lkX5_128⟩, List.forall_mem_cons.mpr ⟨⟨yX5_lowerOf, cX5_lowerOf, 4, (some .int), rX5_lowerOf, zX5_lowerOf l, by decide +kernel, ykX5_lowerOf, lkX5_131⟩, fun _ h => absurd h List.not_mem_nil⟩⟩, by decide +kernel, rfl⟩
set_option maxRecDepth 100000 in
set_option maxHeartbeats 4000000 in
theorem wX5_lowerBound {CX5_pathBarred : zK} (HX5_pathBarred : iX5_pathBarred CX5_pathBarred) {CX5_lowerOf : zK} (HX5_lowerOf : iX5_lowerOf CX5_lowerOf) {σ : zS} {a : AS} {s : Int32} {t : Int32} {r : Int32} {a' : AS} {P : zP} (hσ : mSt a σ) (hr : rPair lob s t a r a') (hp : ∀ σ', mSt a' σ' → P (some (.inl r)) σ') {Z : zH} (hZ : zcl (tX5_lowerBound, fX5, gX5, [(128, 2, 5, CX5_pathBarred), (131, 2, 5, CX5_lowerOf)], [], 1) P Z) : Z (σ) 0 [some (.inr (.inl 0)), some (.inl s), some (.inl t), none] [] := by
  have hσ0 := hσ
  obtain ⟨n, K, L, F, ob⟩ := a
  obtain ⟨yn, ycap, ych, ycf, yct, ycw, yfl, ysd, ypa, yla, ybw, ywo, yns, ynw, rfl, hG, hR, hF, hT⟩ := hσ
  dsimp only at hG hR hF hT
  have hn1 := hG.2.1
  have hn2 := hG.2.2.1
  obtain ⟨rfl, hr⟩ := hr
  refine hZ [] 60 _ _ _ _ ?_
  refine HX5_pathBarred hG.1 hn1 hn2 hT ⟨fun h => ?_, fun h => ⟨fun h2 => ?_, fun B h2 => ?_⟩⟩
  · refine And.intro (fun c => absurd c (pe_neg h)) (fun _ => ?_)
    rcases hr with ⟨-, rfl⟩ | ⟨q, -, -⟩ | ⟨B, i, j, -, hij, -⟩
    · exact hp _ hσ0
    · exact absurd q h
    · exact absurd (okP_pe hn2 hij) h
  · refine And.intro (fun c => absurd c (by decide)) (fun _ => ?_)
    rcases hr with ⟨q, -⟩ | ⟨-, -, rfl⟩ | ⟨B, i, j, q, -, -⟩
    · exact absurd h q
    · exact hp _ hσ0
    · dsimp only at q; rw [h2] at q; cases q
  · refine And.intro (fun _ => ?_) (fun c => absurd (by decide) c)
    rcases hr with ⟨q, -⟩ | ⟨-, q, -⟩ | ⟨B', i, j, q, hij, rfl⟩
    · exact absurd h q
    · dsimp only at q; rw [h2] at q; cases q
    · dsimp only at q
      rw [h2] at q
      cases q
      obtain ⟨hi, hj, hne, rfl, rfl⟩ := hij
      rw [h2] at hT
      refine HX5_lowerOf hG hT rfl rfl hi hj hne ?_
      exact hp _ hσ0
theorem zX5_lowerBound (l : Launch) : zMet l yX5_lowerBound cX5_lowerBound 4 (some .int) rX5_lowerBound kX5_lowerBound := zMet_of (by decide) ⟨rfl, rfl⟩ (oX5_lowerBound l) (fun as0 st0 P h => by
  obtain ⟨σ, a, s, t, r, a', h0, h1, rfl, rfl, hz⟩ := h
  exact ⟨Nat.le_of_ble_eq_true rfl, fun Z hZ => wX5_lowerBound eX5_pathBarred eX5_lowerOf h0 h1 hz hZ⟩)

/-- upperBound(s, t) -/
def kX5_upperBound : zK := fun as0 st0 P => ∃ σ : zS, ∃ a : AS, ∃ s : Int32, ∃ t : Int32, ∃ r : Int32, ∃ a' : AS, (mSt a σ) ∧ (rPair upb s t a r a') ∧ as0 = [.inr (.inl 0), .inl s, .inl t] ∧ st0 = σ ∧ (∀ σ', mSt a' σ' → P (some (.inl r)) σ')
def iX5_upperBound (C0 : zK) : Prop := ∀ {σ : zS} {a : AS} {s : Int32} {t : Int32} {r : Int32} {a' : AS} {P : zP}, (mSt a σ) → (rPair upb s t a r a') → (∀ σ', mSt a' σ' → P (some (.inl r)) σ') → C0 [.inr (.inl 0), .inl s, .inl t] (σ) P
theorem eX5_upperBound : iX5_upperBound kX5_upperBound := by
  intro σ a s t r a' P h0 h1 hz
  exact ⟨σ, a, s, t, r, a', h0, h1, rfl, rfl, hz⟩
theorem oX5_upperBound (l : Launch) : zOK l RX5 cX5_upperBound rX5_upperBound (some .int) (tX5_upperBound, fX5, gX5, [(128, 2, 5, kX5_pathBarred), (124, 3, 5, kX5_leastOn)], [], 1) := ⟨tX5_upperBound_ok, fX5_ok, gX5_ok, List.forall_mem_cons.mpr ⟨⟨yX5_pathBarred, cX5_pathBarred, 4, (some .int), rX5_pathBarred, zX5_pathBarred l, by decide +kernel, ykX5_pathBarred, lkX5_128⟩, List.forall_mem_cons.mpr ⟨⟨yX5_leastOn, cX5_leastOn, 7, (some .int), rX5_leastOn, zX5_leastOn l, by decide +kernel, ykX5_leastOn, lkX5_124⟩, fun _ h => absurd h List.not_mem_nil⟩⟩, by decide +kernel, rfl⟩
set_option maxRecDepth 100000 in
set_option maxHeartbeats 4000000 in
theorem wX5_upperBound {CX5_pathBarred : zK} (HX5_pathBarred : iX5_pathBarred CX5_pathBarred) {CX5_leastOn : zK} (HX5_leastOn : iX5_leastOn CX5_leastOn) {σ : zS} {a : AS} {s : Int32} {t : Int32} {r : Int32} {a' : AS} {P : zP} (hσ : mSt a σ) (hr : rPair upb s t a r a') (hp : ∀ σ', mSt a' σ' → P (some (.inl r)) σ') {Z : zH} (hZ : zcl (tX5_upperBound, fX5, gX5, [(128, 2, 5, CX5_pathBarred), (124, 3, 5, CX5_leastOn)], [], 1) P Z) : Z (σ) 0 [some (.inr (.inl 0)), some (.inl s), some (.inl t), none] [] := by
  have hσ0 := hσ
  obtain ⟨n, K, L, F, ob⟩ := a
  obtain ⟨yn, ycap, ych, ycf, yct, ycw, yfl, ysd, ypa, yla, ybw, ywo, yns, ynw, rfl, hG, hR, hF, hT⟩ := hσ
  dsimp only at hG hR hF hT
  have hn1 := hG.2.1
  have hn2 := hG.2.2.1
  obtain ⟨rfl, hr⟩ := hr
  refine hZ [] 60 _ _ _ _ ?_
  refine HX5_pathBarred hG.1 hn1 hn2 hT ⟨fun h => ?_, fun h => ⟨fun h2 => ?_, fun B h2 => ?_⟩⟩
  · refine And.intro (fun c => absurd c (pe_neg h)) (fun _ => ?_)
    rcases hr with ⟨-, rfl⟩ | ⟨q, -, -⟩ | ⟨B, i, j, -, hij, -⟩
    · exact hp _ hσ0
    · exact absurd q h
    · exact absurd (okP_pe hn2 hij) h
  · refine And.intro (fun c => absurd c (by decide)) (fun _ => ?_)
    rcases hr with ⟨q, -⟩ | ⟨-, -, rfl⟩ | ⟨B, i, j, q, -, -⟩
    · exact absurd h q
    · exact hp _ hσ0
    · dsimp only at q; rw [h2] at q; cases q
  · refine And.intro (fun _ => ?_) (fun c => absurd (by decide) c)
    rcases hr with ⟨q, -⟩ | ⟨-, q, -⟩ | ⟨B', i, j, q, hij, rfl⟩
    · exact absurd h q
    · dsimp only at q; rw [h2] at q; cases q
    · dsimp only at q
      rw [h2] at q
      cases q
      obtain ⟨hi, hj, hne, rfl, rfl⟩ := hij
      rw [h2] at hT
      refine HX5_leastOn (fl := false) hG hT rfl rfl hi hj hne ?_
      exact hp _ hσ0
theorem zX5_upperBound (l : Launch) : zMet l yX5_upperBound cX5_upperBound 4 (some .int) rX5_upperBound kX5_upperBound := zMet_of (by decide) ⟨rfl, rfl⟩ (oX5_upperBound l) (fun as0 st0 P h => by
  obtain ⟨σ, a, s, t, r, a', h0, h1, rfl, rfl, hz⟩ := h
  exact ⟨Nat.le_of_ble_eq_true rfl, fun Z hZ => wX5_upperBound eX5_pathBarred eX5_leastOn h0 h1 hz hZ⟩)

/-- minimumCut(s, t) -/
def kX5_minimumCut : zK := fun as0 st0 P => ∃ σ : zS, ∃ a : AS, ∃ s : Int32, ∃ t : Int32, ∃ r : Int32, ∃ a' : AS, (mSt a σ) ∧ (rMin s t a r a') ∧ as0 = [.inr (.inl 0), .inl s, .inl t] ∧ st0 = σ ∧ (∀ σ', mSt a' σ' → P (some (.inl r)) σ')
def iX5_minimumCut (C0 : zK) : Prop := ∀ {σ : zS} {a : AS} {s : Int32} {t : Int32} {r : Int32} {a' : AS} {P : zP}, (mSt a σ) → (rMin s t a r a') → (∀ σ', mSt a' σ' → P (some (.inl r)) σ') → C0 [.inr (.inl 0), .inl s, .inl t] (σ) P
theorem eX5_minimumCut : iX5_minimumCut kX5_minimumCut := by
  intro σ a s t r a' P h0 h1 hz
  exact ⟨σ, a, s, t, r, a', h0, h1, rfl, rfl, hz⟩
theorem oX5_minimumCut (l : Launch) : zOK l RX5 cX5_minimumCut rX5_minimumCut (some .int) (tX5_minimumCut, fX5, gX5, [(56, 2, 5, kX5_twoBarred), (134, 2, 5, kX5_decide), (124, 3, 5, kX5_leastOn)], [], 1) := ⟨tX5_minimumCut_ok, fX5_ok, gX5_ok, List.forall_mem_cons.mpr ⟨⟨yX5_twoBarred, cX5_twoBarred, 3, (some .int), rX5_twoBarred, zX5_twoBarred l, by decide +kernel, ykX5_twoBarred, lkX5_56⟩, List.forall_mem_cons.mpr ⟨⟨yX5_decide, cX5_decide, 3, none, rX5_decide, zX5_decide l, by decide +kernel, ykX5_decide, lkX5_134⟩, List.forall_mem_cons.mpr ⟨⟨yX5_leastOn, cX5_leastOn, 7, (some .int), rX5_leastOn, zX5_leastOn l, by decide +kernel, ykX5_leastOn, lkX5_124⟩, fun _ h => absurd h List.not_mem_nil⟩⟩⟩, by decide +kernel, rfl⟩
set_option maxRecDepth 100000 in
set_option maxHeartbeats 4000000 in
theorem wX5_minimumCut {CX5_twoBarred : zK} (HX5_twoBarred : iX5_twoBarred CX5_twoBarred) {CX5_decide : zK} (HX5_decide : iX5_decide CX5_decide) {CX5_leastOn : zK} (HX5_leastOn : iX5_leastOn CX5_leastOn) {σ : zS} {a : AS} {s : Int32} {t : Int32} {r : Int32} {a' : AS} {P : zP} (hσ : mSt a σ) (hr : rMin s t a r a') (hp : ∀ σ', mSt a' σ' → P (some (.inl r)) σ') {Z : zH} (hZ : zcl (tX5_minimumCut, fX5, gX5, [(56, 2, 5, CX5_twoBarred), (134, 2, 5, CX5_decide), (124, 3, 5, CX5_leastOn)], [], 1) P Z) : Z (σ) 0 [some (.inr (.inl 0)), some (.inl s), some (.inl t), none] [] := by
  have hσ0 := hσ
  obtain ⟨n, K, L, F, ob⟩ := a
  obtain ⟨yn, ycap, ych, ycf, yct, ycw, yfl, ysd, ypa, yla, ybw, ywo, yns, ynw, rfl, hG, hR, hF, hT⟩ := hσ
  dsimp only at hG hR hF hT
  have hn1 := hG.2.1
  have hn2 := hG.2.2.1
  refine hZ [] 90 _ _ _ _ ?_
  refine HX5_twoBarred hG.1 hn1 hn2 ?_
  rcases hr with ⟨e, rfl, rfl⟩ | ⟨i, j, B, hij, hbm, q, rfl⟩
  · refine And.intro (fun c => absurd c (pe_neg e)) (fun _ => ?_)
    exact hp _ hσ0
  · have e := okP_pe hn2 hij
    have hij0 := hij
    obtain ⟨hi, hj, hne, rfl, rfl⟩ := hij
    dsimp only at hi hj e
    refine And.intro (fun _ => ?_) (fun c => absurd (by rw [e]; decide) c)
    refine HX5_decide hσ0 hij0 (fun a2 σ' hbm2 hc => ?_)
    have ea := rBM_uniq hbm2 hbm
    subst ea
    have hc0 := hc
    obtain ⟨q1, q2, -⟩ := rBM_some hbm
    obtain ⟨n', K', L', F', ob'⟩ := a2
    obtain ⟨zn, zcap, zch, zcf, zct, zcw, zfl, zsd, zpa, zla, zbw, zwo, zns, znw, rfl, hG', hR', hF', hT'⟩ := hc
    dsimp only at hG' hR' hF' hT' q q1 q2
    subst q1; subst q2; subst q
    refine HX5_leastOn (fl := false) hG' hT' rfl rfl hi hj hne ?_
    exact hp _ hc0
theorem zX5_minimumCut (l : Launch) : zMet l yX5_minimumCut cX5_minimumCut 4 (some .int) rX5_minimumCut kX5_minimumCut := zMet_of (by decide) ⟨rfl, rfl⟩ (oX5_minimumCut l) (fun as0 st0 P h => by
  obtain ⟨σ, a, s, t, r, a', h0, h1, rfl, rfl, hz⟩ := h
  exact ⟨Nat.le_of_ble_eq_true rfl, fun Z hZ => wX5_minimumCut eX5_twoBarred eX5_decide eX5_leastOn h0 h1 hz hZ⟩)

/-- isAtLeast(s, t, l) -/
def kX5_isAtLeast : zK := fun as0 st0 P => ∃ σ : zS, ∃ a : AS, ∃ s : Int32, ∃ t : Int32, ∃ l : Int32, ∃ r : Int32, ∃ a' : AS, (mSt a σ) ∧ (rAt s t l a r a') ∧ as0 = [.inr (.inl 0), .inl s, .inl t, .inl l] ∧ st0 = σ ∧ (∀ σ', mSt a' σ' → P (some (.inl r)) σ')
def iX5_isAtLeast (C0 : zK) : Prop := ∀ {σ : zS} {a : AS} {s : Int32} {t : Int32} {l : Int32} {r : Int32} {a' : AS} {P : zP}, (mSt a σ) → (rAt s t l a r a') → (∀ σ', mSt a' σ' → P (some (.inl r)) σ') → C0 [.inr (.inl 0), .inl s, .inl t, .inl l] (σ) P
theorem eX5_isAtLeast : iX5_isAtLeast kX5_isAtLeast := by
  intro σ a s t l r a' P h0 h1 hz
  exact ⟨σ, a, s, t, l, r, a', h0, h1, rfl, rfl, hz⟩
theorem oX5_isAtLeast (l : Launch) : zOK l RX5 cX5_isAtLeast rX5_isAtLeast (some .int) (tX5_isAtLeast, fX5, gX5, [(56, 2, 5, kX5_twoBarred), (137, 1, 100, kX5_isLimit), (131, 2, 5, kX5_lowerOf), (124, 3, 5, kX5_leastOn), (106, 0, 5, kX5_makeTree)], [], 1) := ⟨tX5_isAtLeast_ok, fX5_ok, gX5_ok, List.forall_mem_cons.mpr ⟨⟨yX5_twoBarred, cX5_twoBarred, 3, (some .int), rX5_twoBarred, zX5_twoBarred l, by decide +kernel, ykX5_twoBarred, lkX5_56⟩, List.forall_mem_cons.mpr ⟨⟨yX5_isLimit, cX5_isLimit, 1, (some .boolean), rX5_isLimit, zX5_isLimit l, by decide +kernel, ykX5_isLimit, lkX5_137⟩, List.forall_mem_cons.mpr ⟨⟨yX5_lowerOf, cX5_lowerOf, 4, (some .int), rX5_lowerOf, zX5_lowerOf l, by decide +kernel, ykX5_lowerOf, lkX5_131⟩, List.forall_mem_cons.mpr ⟨⟨yX5_leastOn, cX5_leastOn, 7, (some .int), rX5_leastOn, zX5_leastOn l, by decide +kernel, ykX5_leastOn, lkX5_124⟩, List.forall_mem_cons.mpr ⟨⟨yX5_makeTree, cX5_makeTree, 2, none, rX5_makeTree, zX5_makeTree l, by decide +kernel, ykX5_makeTree, lkX5_106⟩, fun _ h => absurd h List.not_mem_nil⟩⟩⟩⟩⟩, by decide +kernel, rfl⟩
set_option maxRecDepth 100000 in
set_option maxHeartbeats 4000000 in
theorem wX5_isAtLeast {CX5_twoBarred : zK} (HX5_twoBarred : iX5_twoBarred CX5_twoBarred) {CX5_isLimit : zK} (HX5_isLimit : iX5_isLimit CX5_isLimit) {CX5_lowerOf : zK} (HX5_lowerOf : iX5_lowerOf CX5_lowerOf) {CX5_leastOn : zK} (HX5_leastOn : iX5_leastOn CX5_leastOn) {CX5_makeTree : zK} (HX5_makeTree : iX5_makeTree CX5_makeTree) {σ : zS} {a : AS} {s : Int32} {t : Int32} {l : Int32} {r : Int32} {a' : AS} {P : zP} (hσ : mSt a σ) (hr : rAt s t l a r a') (hp : ∀ σ', mSt a' σ' → P (some (.inl r)) σ') {Z : zH} (hZ : zcl (tX5_isAtLeast, fX5, gX5, [(56, 2, 5, CX5_twoBarred), (137, 1, 100, CX5_isLimit), (131, 2, 5, CX5_lowerOf), (124, 3, 5, CX5_leastOn), (106, 0, 5, CX5_makeTree)], [], 1) P Z) : Z (σ) 0 [some (.inr (.inl 0)), some (.inl s), some (.inl t), some (.inl l), none] [] := by
  have hσ0 := hσ
  obtain ⟨n, K, L, F, ob⟩ := a
  obtain ⟨yn, ycap, ych, ycf, yct, ycw, yfl, ysd, ypa, yla, ybw, ywo, yns, ynw, rfl, hG, hR, hF, hT⟩ := hσ
  dsimp only at hG hR hF hT
  have hn1 := hG.2.1
  have hn2 := hG.2.2.1
  refine hZ [58] 90 _ _ _ _ ?_
  refine HX5_twoBarred hG.1 hn1 hn2 ?_
  rcases hr with ⟨e, rfl, rfl⟩ | ⟨e, hl, rfl, rfl⟩ | ⟨i, j, m, B0, hij, hm, rfl, hab, q0, rfl⟩
  · refine And.intro (fun c => absurd c (pe_neg e)) (fun _ => ?_)
    exact hp _ hσ0
  · refine And.intro (fun _ => ?_) (fun c => absurd (by rw [e]; decide) c)
    refine HX5_isLimit ?_
    rw [hl]
    exact And.intro (fun c => absurd rfl c) (fun _ => hp _ hσ0)
  · have e := okP_pe hn2 hij
    have hij0 := hij
    obtain ⟨hi, hj, hne, rfl, rfl⟩ := hij
    dsimp only at hi hj e
    refine And.intro (fun _ => ?_) (fun c => absurd (by rw [e]; decide) c)
    refine HX5_isLimit ?_
    rw [okLim_nI hm]
    refine And.intro (fun _ => ?_) (fun c => absurd c (by decide))
    have fin : ∀ a2 σ', rAB i j m (n, K, L, F, ob) a2 → mSt a2 σ' → Z σ' 58 [some (.inr (.inl 0)), some (.inl (nI i)), some (.inl (nI j)), some (.inl (nI m)), some (.inl (pe n (nI i) (nI j)))] [] := by
      intro a2 σ' hab2 hc
      have ea := rAB_uniq hab2 hab
      subst ea
      have hc0 := hc
      have hq : a2.1 = n ∧ a2.2.1 = K := by
        rcases hab with ⟨-, rfl⟩ | ⟨-, rfl⟩
        · exact ⟨rfl, rfl⟩
        · exact ⟨rfl, rfl⟩
      obtain ⟨q1, q2⟩ := hq
      obtain ⟨n', K', L', F', ob'⟩ := a2
      obtain ⟨zn, zcap, zch, zcf, zct, zcw, zfl, zsd, zpa, zla, zbw, zwo, zns, znw, rfl, hG', hR', hF', hT'⟩ := hc
      dsimp only at hG' hR' hF' hT' q0 q1 q2
      subst q1; subst q2; subst q0
      obtain ⟨-, hB, -, -, -⟩ := mT_some hT'
      have b1 := lm_le (n := n') (p := tp n' B0) (tl_le hB.1 hn2) i j
      have b3 : lob n' B0 K' i j ≤ 143856 := by unfold lob; omega
      have h9 := hp _ hc0
      try dsimp only at h9
      refine hZ [] 60 _ _ _ _ ?_
      refine HX5_lowerOf hG' hT' rfl rfl hi hj hne ?_
      refine pk_lt (lob n' B0 K' i j) m (fun c => ?_) (fun c => ?_)
      · rw [decide_eq_false (show ¬ m ≤ lob n' B0 K' i j by omega)] at h9
        exact h9
      · rw [decide_eq_true c] at h9
        exact h9
    rcases mT_0 hT with ⟨e1, e2⟩ | ⟨e1, B, e2⟩
    · refine And.intro (fun _ => ?_) (fun c => absurd e1 c)
      refine HX5_makeTree hσ0 (fun σ' h' => ?_)
      exact fin _ _ (Or.inr ⟨fun q => (by obtain ⟨B, q, -⟩ := q; dsimp only at q; rw [e2] at q; cases q), rfl⟩) h'
    · refine And.intro (fun c => absurd c (by rw [e1]; decide)) (fun _ => ?_)
      rw [e2] at hT
      obtain ⟨-, hB, -, -, -⟩ := mT_some hT
      have b1 := lm_le (n := n) (p := tp n B) (tl_le hB.1 hn2) i j
      have b2 := lw_le (p := tp n B) hG.2.2.2.2.1 hn2 i j
      have b3 : lob n B K i j ≤ 143856 := by unfold lob; omega
      refine HX5_lowerOf hG hT rfl rfl hi hj hne ?_
      refine pk_le m (lob n B K i j) (fun c => ?_) (fun c => ?_)
      · exact fin _ _ (Or.inl ⟨⟨B, e2, fun q => absurd q.1 (by dsimp only; omega)⟩, rfl⟩) hσ0
      · refine HX5_leastOn (fl := false) hG hT rfl rfl hi hj hne ?_
        refine pk_lt (lw n (tp n B) K i j) m (fun c2 => ?_) (fun c2 => ?_)
        · exact fin _ _ (Or.inl ⟨⟨B, e2, fun q => absurd q.2 (by dsimp only [upb]; omega)⟩, rfl⟩) hσ0
        · refine HX5_makeTree hσ0 (fun σ' h' => ?_)
          exact fin _ _ (Or.inr ⟨fun q => (by
            obtain ⟨B', q, q2⟩ := q
            dsimp only at q
            rw [e2] at q
            cases q
            exact q2 ⟨c, c2⟩), rfl⟩) h'
theorem zX5_isAtLeast (l : Launch) : zMet l yX5_isAtLeast cX5_isAtLeast 5 (some .int) rX5_isAtLeast kX5_isAtLeast := zMet_of (by decide) ⟨rfl, rfl⟩ (oX5_isAtLeast l) (fun as0 st0 P h => by
  obtain ⟨σ, a, s, t, l, r, a', h0, h1, rfl, rfl, hz⟩ := h
  exact ⟨Nat.le_of_ble_eq_true rfl, fun Z hZ => wX5_isAtLeast eX5_twoBarred eX5_isLimit eX5_lowerOf eX5_leastOn eX5_makeTree h0 h1 hz hZ⟩)

