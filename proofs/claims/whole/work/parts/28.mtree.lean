/-! THE REFERENCE: the near cut by looking at all sets; the building of the tree. -/
def fN (n : Nat) (K : Nat → Nat → Nat) (s t S : Nat) (o : Option (Nat × Nat)) : Prop := match o with
  | none => ∀ Y, Y < S → ¬ isSep n s t Y
  | some (f, X) => (∃ Y, Y < S ∧ isSep n s t Y ∧ wt n K Y = f) ∧ (∀ Y, Y < S → isSep n s t Y → f ≤ wt n K Y) ∧ X < 2 ^ n ∧ ∀ k, X.testBit k = true ↔ ∀ Y, Y < S → isSep n s t Y → wt n K Y = f → Y.testBit k = true
theorem fN_skip {n : Nat} {K : Nat → Nat → Nat} {s t S : Nat} {o : Option (Nat × Nat)} (h : fN n K s t S o) (hS : isSep n s t S → ∃ f X, o = some (f, X) ∧ f < wt n K S) : fN n K s t (S + 1) o := by
  cases o with
  | none =>
    intro Y hY hs
    by_cases e : Y = S
    · subst e; obtain ⟨f, X, q, -⟩ := hS hs; cases q
    · exact h Y (by omega) hs
  | some q =>
    obtain ⟨f, X⟩ := q
    obtain ⟨⟨Y0, a1, a2, a3⟩, b, c, d⟩ := h
    have key : isSep n s t S → f < wt n K S := fun hs => by
      obtain ⟨f', X', e, e2⟩ := hS hs
      cases e; exact e2
    refine ⟨⟨Y0, by omega, a2, a3⟩, fun Y hY hs => ?_, c, fun k => ?_⟩
    · by_cases e : Y = S
      · subst e; exact Nat.le_of_lt (key hs)
      · exact b Y (by omega) hs
    · rw [d k]
      constructor
      · intro g Y hY hs hw
        by_cases e : Y = S
        · subst e; have := key hs; omega
        · exact g Y (by omega) hs hw
      · intro g Y hY hs hw
        exact g Y (by omega) hs hw
theorem fN_new {n : Nat} {K : Nat → Nat → Nat} {s t S : Nat} {o : Option (Nat × Nat)} (h : fN n K s t S o) (hS : isSep n s t S) (ho : ∀ f X, o = some (f, X) → wt n K S < f) : fN n K s t (S + 1) (some (wt n K S, S)) := by
  have old : ∀ Y, Y < S → isSep n s t Y → wt n K S < wt n K Y := fun Y hY hs => by
    cases o with
    | none => exact absurd hs (h Y hY)
    | some q =>
      obtain ⟨f, X⟩ := q
      have := ho f X rfl
      have := h.2.1 Y hY hs
      omega
  refine ⟨⟨S, by omega, hS, rfl⟩, fun Y hY hs => ?_, hS.1, fun k => ?_⟩
  · by_cases e : Y = S
    · subst e; exact Nat.le_refl _
    · exact Nat.le_of_lt (old Y (by omega) hs)
  · constructor
    · intro g Y hY hs hw
      by_cases e : Y = S
      · subst e; exact g
      · have := old Y (by omega) hs; omega
    · intro g
      exact g S (by omega) hS rfl
theorem fN_and {n : Nat} {K : Nat → Nat → Nat} {s t S f X : Nat} (h : fN n K s t S (some (f, X))) (hS : isSep n s t S) (hf : wt n K S = f) : fN n K s t (S + 1) (some (f, X &&& S)) := by
  obtain ⟨⟨Y0, a1, a2, a3⟩, b, c, d⟩ := h
  refine ⟨⟨S, by omega, hS, hf⟩, fun Y hY hs => ?_, Nat.lt_of_le_of_lt Nat.and_le_left c, fun k => ?_⟩
  · by_cases e : Y = S
    · subst e; omega
    · exact b Y (by omega) hs
  · rw [Nat.testBit_and, Bool.and_eq_true, d k]
    constructor
    · rintro ⟨g1, g2⟩ Y hY hs hw
      by_cases e : Y = S
      · subst e; exact g2
      · exact g1 Y (by omega) hs hw
    · intro g
      exact ⟨fun Y hY hs hw => g Y (by omega) hs hw, g S (by omega) hS hf⟩
theorem fN_end {n : Nat} {K : Nat → Nat → Nat} {s t : Nat} {o : Option (Nat × Nat)} (hs : s < n) (ht : t < n) (hst : s ≠ t) (h : fN n K s t (2 ^ n - 1) o) : o = some (wt n K (nr n K s t), nr n K s t) := by
  have hN := nr_spec K hs hst
  have hsepN : isSep n s t (nr n K s t) := ⟨hN.1, hN.2.1, hN.2.2.1⟩
  have lt' : ∀ Y, isSep n s t Y → Y < 2 ^ n - 1 := fun Y hY => by
    have h1 := hY.1
    have h2 : Y ≠ 2 ^ n - 1 := fun e => by
      have := hY.2.2
      rw [e, Nat.testBit_two_pow_sub_one] at this
      simp [ht] at this
    omega
  cases o with
  | none => exact absurd hsepN (h _ (lt' _ hsepN))
  | some q =>
    obtain ⟨f, X⟩ := q
    obtain ⟨⟨Y0, a1, a2, a3⟩, b, c, d⟩ := h
    have e1 : f = wt n K (nr n K s t) := by
      have g1 := b _ (lt' _ hsepN) hsepN
      have g2 := (hN.2.2.2 Y0 a2.1 a2.2.1 a2.2.2).1
      omega
    have e2 : X = nr n K s t := by
      apply Nat.eq_of_testBit_eq
      intro k
      have g : X.testBit k = true ↔ (nr n K s t).testBit k = true := by
        rw [d k]
        constructor
        · intro g
          exact g _ (lt' _ hsepN) hsepN e1.symm
        · intro g Y _ hY hw
          exact (hN.2.2.2 Y hY.1 hY.2.1 hY.2.2).2 (by rw [hw, e1]) k g
      cases q1 : X.testBit k <;> cases q2 : (nr n K s t).testBit k
      · rfl
      · exact absurd (g.mpr q2) (by rw [q1]; decide)
      · exact absurd (g.mp q1) (by rw [q2]; decide)
      · rfl
    rw [e1, e2]
/-- how the reference holds it -/
def nwI (o : Option (Nat × Nat)) : Int32 := match o with
  | none => -1
  | some q => nI q.1
/-- findNear(s, t) -/
def kX5_findNear : zK := fun as0 st0 P => ∃ yn : Int32, ∃ ycap : Nat → Int32, ∃ ych : Int32, ∃ ycf : Nat → Int32, ∃ yct : Nat → Int32, ∃ ycw : Nat → Int32, ∃ yfl : Int32, ∃ ysd : Int32, ∃ ypa : Nat → Int32, ∃ yla : Nat → Int32, ∃ ybw : Nat → Int32, ∃ ywo : Nat → Int32, ∃ yns : Int32, ∃ ynw : Int32, ∃ n : Nat, ∃ K : Nat → Nat → Nat, ∃ s : Nat, ∃ t : Nat, ∃ a : Int32, ∃ b : Int32, (mG yn ycap n K) ∧ (∀ S, S < 2 ^ n → ywo S = nI (wt n K S)) ∧ (a = nI s) ∧ (b = nI t) ∧ (s < n) ∧ (t < n) ∧ (s ≠ t) ∧ as0 = [.inr (.inl 0), .inl a, .inl b] ∧ st0 = (MW yn ycap ych ycf yct ycw yfl ysd ypa yla ybw ywo yns ynw) ∧ (P none (MW yn ycap ych ycf yct ycw yfl ysd ypa yla ybw ywo (nI (nr n K s t)) (nI (wt n K (nr n K s t)))))
def iX5_findNear (C0 : zK) : Prop := ∀ {yn : Int32} {ycap : Nat → Int32} {ych : Int32} {ycf : Nat → Int32} {yct : Nat → Int32} {ycw : Nat → Int32} {yfl : Int32} {ysd : Int32} {ypa : Nat → Int32} {yla : Nat → Int32} {ybw : Nat → Int32} {ywo : Nat → Int32} {yns : Int32} {ynw : Int32} {n : Nat} {K : Nat → Nat → Nat} {s : Nat} {t : Nat} {a : Int32} {b : Int32} {P : zP}, (mG yn ycap n K) → (∀ S, S < 2 ^ n → ywo S = nI (wt n K S)) → (a = nI s) → (b = nI t) → (s < n) → (t < n) → (s ≠ t) → (P none (MW yn ycap ych ycf yct ycw yfl ysd ypa yla ybw ywo (nI (nr n K s t)) (nI (wt n K (nr n K s t))))) → C0 [.inr (.inl 0), .inl a, .inl b] ((MW yn ycap ych ycf yct ycw yfl ysd ypa yla ybw ywo yns ynw)) P
theorem eX5_findNear : iX5_findNear kX5_findNear := by
  intro yn ycap ych ycf yct ycw yfl ysd ypa yla ybw ywo yns ynw n K s t a b P h0 h1 h2 h3 h4 h5 h6 hz
  exact ⟨yn, ycap, ych, ycf, yct, ycw, yfl, ysd, ypa, yla, ybw, ywo, yns, ynw, n, K, s, t, a, b, h0, h1, h2, h3, h4, h5, h6, rfl, rfl, hz⟩
theorem oX5_findNear (l : Launch) : zOK l RX5 cX5_findNear rX5_findNear none (tX5_findNear, fX5, gX5, [(75, 0, 5, kX5_full), (71, 2, 100, kX5_isIn)], [], 0) := ⟨tX5_findNear_ok, fX5_ok, gX5_ok, List.forall_mem_cons.mpr ⟨⟨yX5_full, cX5_full, 1, (some .int), rX5_full, zX5_full l, by decide +kernel, ykX5_full, lkX5_75⟩, List.forall_mem_cons.mpr ⟨⟨yX5_isIn, cX5_isIn, 2, (some .boolean), rX5_isIn, zX5_isIn l, by decide +kernel, ykX5_isIn, lkX5_71⟩, fun _ h => absurd h List.not_mem_nil⟩⟩, by decide +kernel, rfl⟩
set_option maxRecDepth 100000 in
set_option maxHeartbeats 4000000 in
theorem wX5_findNear {CX5_full : zK} (HX5_full : iX5_full CX5_full) {CX5_isIn : zK} (HX5_isIn : iX5_isIn CX5_isIn) {yn : Int32} {ycap : Nat → Int32} {ych : Int32} {ycf : Nat → Int32} {yct : Nat → Int32} {ycw : Nat → Int32} {yfl : Int32} {ysd : Int32} {ypa : Nat → Int32} {yla : Nat → Int32} {ybw : Nat → Int32} {ywo : Nat → Int32} {yns : Int32} {ynw : Int32} {n : Nat} {K : Nat → Nat → Nat} {s : Nat} {t : Nat} {a : Int32} {b : Int32} {P : zP} (hG : mG yn ycap n K) (hwo : ∀ S, S < 2 ^ n → ywo S = nI (wt n K S)) (ha : a = nI s) (hb : b = nI t) (hs : s < n) (ht : t < n) (hst : s ≠ t) (hp : P none (MW yn ycap ych ycf yct ycw yfl ysd ypa yla ybw ywo (nI (nr n K s t)) (nI (wt n K (nr n K s t))))) {Z : zH} (hZ : zcl (tX5_findNear, fX5, gX5, [(75, 0, 5, CX5_full), (71, 2, 100, CX5_isIn)], [], 0) P Z) : Z ((MW yn ycap ych ycf yct ycw yfl ysd ypa yla ybw ywo yns ynw)) 0 [some (.inr (.inl 0)), some (.inl a), some (.inl b), none, none] [] := by
  subst ha hb
  obtain ⟨rfl, hn1, hn2, hcap, hK⟩ := hG
  have p12n := p12 hn2
  have p4 := p12' hn1
  have loop : ∀ S, S ≤ 2 ^ n - 1 → 0 < S → ∀ (o : Option (Nat × Nat)) (ns : Int32) (o4 : Option zV), fN n K s t S o → (∀ q, o = some q → ns = nI q.2) → Z (MW (nI n) ycap ych ycf yct ycw yfl ysd ypa yla ybw ywo (ns) (nwI o)) 7 [some (.inr (.inl 0)), some (.inl (nI s)), some (.inl (nI t)), some (.inl (nI S)), o4] [] := by
    refine dn (Q := fun S => 0 < S → ∀ (o : Option (Nat × Nat)) (ns : Int32) (o4 : Option zV), fN n K s t S o → (∀ q, o = some q → ns = nI q.2) → Z (MW (nI n) ycap ych ycf yct ycw yfl ysd ypa yla ybw ywo (ns) (nwI o)) 7 [some (.inr (.inl 0)), some (.inl (nI s)), some (.inl (nI t)), some (.inl (nI S)), o4] []) ?_ ?_
    · intro _ o ns o4 h hns
      have e := fN_end hs ht hst h
      have e2 := hns _ e
      subst e
      subst e2
      refine hZ [] 40 _ _ _ _ ?_
      refine HX5_full rfl hn2 ?_
      exact pk_le (2 ^ n - 1) (2 ^ n - 1) (fun _ => hp) (fun c => absurd c (by omega))
    · intro S hS ih hS0 o ns o4 h hns
      have hSn : S < 2 ^ n := by omega
      have bw := wt_bound hK.1 hn2 S
      have skip : ∀ o4, (isSep n s t S → ∃ f X, o = some (f, X) ∧ f < wt n K S) → Z (MW (nI n) ycap ych ycf yct ycw yfl ysd ypa yla ybw ywo (ns) (nwI o)) 7 [some (.inr (.inl 0)), some (.inl (nI s)), some (.inl (nI t)), some (.inl (nI S + 1)), o4] [] := by
        intro o4 hq
        have h9 := ih (by omega) o ns o4 (fN_skip h hq) hns
        rw [nI_succ S] at h9
        exact h9
      refine hZ [7] 60 _ _ _ _ ?_
      refine HX5_full rfl hn2 ?_
      refine pk_le (2 ^ n - 1) S (fun c => absurd c (by omega)) (fun _ => ?_)
      refine HX5_isIn rfl rfl (by omega) (by omega) ?_
      refine bz (fun h1 => ?_) (fun h1 => ?_)
      · exact skip o4 (fun q => by have := q.2.1; rw [h1] at this; cases this)
      · refine HX5_isIn rfl rfl (by omega) (by omega) ?_
        refine bn (fun h2 => ?_) (fun h2 => ?_)
        · exact skip o4 (fun q => by have := q.2.2; rw [h2] at this; cases this)
        · have hsep : isSep n s t S := ⟨hSn, h1, h2⟩
          refine And.intro (in4096 (by omega)) ?_
          rw [cl4096 (by omega), hwo S hSn]
          cases o with
          | none =>
            refine And.intro (fun _ => ?_) (fun c => absurd (by decide) c)
            have h9 := ih (by omega) _ (nI S) (some (.inl (nI (wt n K S)))) (fN_new h hsep (fun f X q => by cases q)) (fun q e => by cases e; rfl)
            rw [nI_succ S] at h9
            exact h9
          | some q =>
            obtain ⟨f, X⟩ := q
            have hX := hns _ rfl
            subst hX
            have bf : f ≤ 143856 := by
              obtain ⟨⟨Y0, -, -, a3⟩, -⟩ := h
              have := wt_bound hK.1 hn2 Y0
              omega
            refine And.intro (fun c => absurd c (nI_pos (by omega))) (fun _ => ?_)
            refine pk_le f (wt n K S) (fun c => ?_) (fun c => ?_)
            · refine And.intro (fun c2 => ?_) (fun c2 => ?_)
              · have c2 : wt n K S ≠ f := fun e => c2 (by rw [e]; rfl)
                exact skip _ (fun _ => ⟨f, X, rfl, by omega⟩)
              · have c2 : wt n K S = f := (nI_eq (by omega) (by omega)).mp c2
                have h9 := ih (by omega) _ (nI (X &&& S)) (some (.inl (nI (wt n K S)))) (fN_and h hsep c2) (fun q e => by cases e; rfl)
                rw [nI_succ S, ← bI_and] at h9
                exact h9
            · have h9 := ih (by omega) _ (nI S) (some (.inl (nI (wt n K S)))) (fN_new h hsep (fun f' X' q => by cases q; exact c)) (fun q e => by cases e; rfl)
              rw [nI_succ S] at h9
              exact h9
  refine hZ [7] 40 _ _ _ _ ?_
  exact loop 1 (by omega) (by omega) none yns none (fun Y hY q => by
    obtain rfl : Y = 0 := by omega
    have := q.2.1
    simp at this) (fun q e => by cases e)
theorem zX5_findNear (l : Launch) : zMet l yX5_findNear cX5_findNear 5 none rX5_findNear kX5_findNear := zMet_of (by decide) ⟨rfl, rfl⟩ (oX5_findNear l) (fun as0 st0 P h => by
  obtain ⟨yn, ycap, ych, ycf, yct, ycw, yfl, ysd, ypa, yla, ybw, ywo, yns, ynw, n, K, s, t, a, b, h0, h1, h2, h3, h4, h5, h6, rfl, rfl, hz⟩ := h
  exact ⟨Nat.le_of_ble_eq_true rfl, fun Z hZ => wX5_findNear eX5_full eX5_isIn h0 h1 h2 h3 h4 h5 h6 hz hZ⟩)

theorem up_row {n : Nat} {xa : Nat → Int32} {f : Nat → Nat} {k v : Nat} (h : ∀ j, j < n → xa j = nI (f j)) : ∀ j, j < n → upd xa k (nI v) j = nI (va_up f k v j) := fun j hj => by
  by_cases e : j = k
  · subst e; rw [pk_us]; simp [va_up]
  · rw [pk_un e, h j hj]; simp [va_up, e]
theorem up_row0 {n : Nat} {xa : Nat → Int32} {f : Nat → Nat} {k v : Nat} (h : ∀ j, 0 < j → j < n → xa j = nI (f j)) : ∀ j, 0 < j → j < n → upd xa k (nI v) j = nI (va_up f k v j) := fun j h0 hj => by
  by_cases e : j = k
  · subst e; rw [pk_us]; simp [va_up]
  · rw [pk_un e, h j h0 hj]; simp [va_up, e]
/-- joinNode(s) -/
def kX5_joinNode : zK := fun as0 st0 P => ∃ yn : Int32, ∃ ycap : Nat → Int32, ∃ ych : Int32, ∃ ycf : Nat → Int32, ∃ yct : Nat → Int32, ∃ ycw : Nat → Int32, ∃ yfl : Int32, ∃ ysd : Int32, ∃ ypa : Nat → Int32, ∃ yla : Nat → Int32, ∃ ybw : Nat → Int32, ∃ ywo : Nat → Int32, ∃ yns : Int32, ∃ ynw : Int32, ∃ n : Nat, ∃ K : Nat → Nat → Nat, ∃ s : Nat, ∃ p : Nat → Nat, ∃ la : Nat → Nat, ∃ a : Int32, (mG yn ycap n K) ∧ (∀ S, S < 2 ^ n → ywo S = nI (wt n K S)) ∧ (a = nI s) ∧ (0 < s) ∧ (s < n) ∧ (∀ k, k < n → ypa k = nI (p k)) ∧ (∀ k, 0 < k → k < n → yla k = nI (la k)) ∧ (tI n p) ∧ as0 = [.inr (.inl 0), .inl a] ∧ st0 = (MW yn ycap ych ycf yct ycw yfl ysd ypa yla ybw ywo yns ynw) ∧ (∀ pa' la' ns' nw', (∀ k, k < n → pa' k = nI ((tst (nr n K s (p s)) (wt n K (nr n K s (p s))) s (p s) (p, la)).1 k)) → (∀ k, 0 < k → k < n → la' k = nI ((tst (nr n K s (p s)) (wt n K (nr n K s (p s))) s (p s) (p, la)).2 k)) → P none (MW yn ycap ych ycf yct ycw yfl ysd (pa') (la') ybw ywo (ns') (nw')))
def iX5_joinNode (C0 : zK) : Prop := ∀ {yn : Int32} {ycap : Nat → Int32} {ych : Int32} {ycf : Nat → Int32} {yct : Nat → Int32} {ycw : Nat → Int32} {yfl : Int32} {ysd : Int32} {ypa : Nat → Int32} {yla : Nat → Int32} {ybw : Nat → Int32} {ywo : Nat → Int32} {yns : Int32} {ynw : Int32} {n : Nat} {K : Nat → Nat → Nat} {s : Nat} {p : Nat → Nat} {la : Nat → Nat} {a : Int32} {P : zP}, (mG yn ycap n K) → (∀ S, S < 2 ^ n → ywo S = nI (wt n K S)) → (a = nI s) → (0 < s) → (s < n) → (∀ k, k < n → ypa k = nI (p k)) → (∀ k, 0 < k → k < n → yla k = nI (la k)) → (tI n p) → (∀ pa' la' ns' nw', (∀ k, k < n → pa' k = nI ((tst (nr n K s (p s)) (wt n K (nr n K s (p s))) s (p s) (p, la)).1 k)) → (∀ k, 0 < k → k < n → la' k = nI ((tst (nr n K s (p s)) (wt n K (nr n K s (p s))) s (p s) (p, la)).2 k)) → P none (MW yn ycap ych ycf yct ycw yfl ysd (pa') (la') ybw ywo (ns') (nw'))) → C0 [.inr (.inl 0), .inl a] ((MW yn ycap ych ycf yct ycw yfl ysd ypa yla ybw ywo yns ynw)) P
theorem eX5_joinNode : iX5_joinNode kX5_joinNode := by
  intro yn ycap ych ycf yct ycw yfl ysd ypa yla ybw ywo yns ynw n K s p la a P h0 h1 h2 h3 h4 h5 h6 h7 hz
  exact ⟨yn, ycap, ych, ycf, yct, ycw, yfl, ysd, ypa, yla, ybw, ywo, yns, ynw, n, K, s, p, la, a, h0, h1, h2, h3, h4, h5, h6, h7, rfl, rfl, hz⟩
theorem oX5_joinNode (l : Launch) : zOK l RX5 cX5_joinNode rX5_joinNode none (tX5_joinNode, fX5, gX5, [(91, 2, 5, kX5_findNear), (71, 2, 100, kX5_isIn)], [], 0) := ⟨tX5_joinNode_ok, fX5_ok, gX5_ok, List.forall_mem_cons.mpr ⟨⟨yX5_findNear, cX5_findNear, 5, none, rX5_findNear, zX5_findNear l, by decide +kernel, ykX5_findNear, lkX5_91⟩, List.forall_mem_cons.mpr ⟨⟨yX5_isIn, cX5_isIn, 2, (some .boolean), rX5_isIn, zX5_isIn l, by decide +kernel, ykX5_isIn, lkX5_71⟩, fun _ h => absurd h List.not_mem_nil⟩⟩, by decide +kernel, rfl⟩
set_option maxRecDepth 100000 in
set_option maxHeartbeats 4000000 in
theorem wX5_joinNode {CX5_findNear : zK} (HX5_findNear : iX5_findNear CX5_findNear) {CX5_isIn : zK} (HX5_isIn : iX5_isIn CX5_isIn) {yn : Int32} {ycap : Nat → Int32} {ych : Int32} {ycf : Nat → Int32} {yct : Nat → Int32} {ycw : Nat → Int32} {yfl : Int32} {ysd : Int32} {ypa : Nat → Int32} {yla : Nat → Int32} {ybw : Nat → Int32} {ywo : Nat → Int32} {yns : Int32} {ynw : Int32} {n : Nat} {K : Nat → Nat → Nat} {s : Nat} {p : Nat → Nat} {la : Nat → Nat} {a : Int32} {P : zP} (hG : mG yn ycap n K) (hwo : ∀ S, S < 2 ^ n → ywo S = nI (wt n K S)) (ha : a = nI s) (hs0 : 0 < s) (hs : s < n) (hpa : ∀ k, k < n → ypa k = nI (p k)) (hla : ∀ k, 0 < k → k < n → yla k = nI (la k)) (hT : tI n p) (hp : ∀ pa' la' ns' nw', (∀ k, k < n → pa' k = nI ((tst (nr n K s (p s)) (wt n K (nr n K s (p s))) s (p s) (p, la)).1 k)) → (∀ k, 0 < k → k < n → la' k = nI ((tst (nr n K s (p s)) (wt n K (nr n K s (p s))) s (p s) (p, la)).2 k)) → P none (MW yn ycap ych ycf yct ycw yfl ysd (pa') (la') ybw ywo (ns') (nw'))) {Z : zH} (hZ : zcl (tX5_joinNode, fX5, gX5, [(91, 2, 5, CX5_findNear), (71, 2, 100, CX5_isIn)], [], 0) P Z) : Z ((MW yn ycap ych ycf yct ycw yfl ysd ypa yla ybw ywo yns ynw)) 0 [some (.inr (.inl 0)), some (.inl a), none, none, none] [] := by
  subst ha
  have hG0 := hG
  obtain ⟨rfl, hn1, hn2, hcap, hK⟩ := hG
  have p12n := p12 hn2
  have htn := hT.2.1 s hs
  have hts := tI_ne hT hs (by omega)
  have hX := (nr_spec K hs (Ne.symm hts)).1
  generalize hXe : nr n K s (p s) = X at hX hp
  generalize hwe : wt n K X = w at hp
  have loop : ∀ m, m ≤ n → ∀ (pa' : Nat → Int32) (o4 : Option zV), (∀ k, k < n → pa' k = nI (if k < m then tp1 X s (p s) p k else p k)) → Z (MW (nI n) ycap ych ycf yct ycw yfl ysd (pa') yla ybw ywo (nI X) (nI w)) 15 [some (.inr (.inl 0)), some (.inl (nI s)), some (.inl (nI (p s))), some (.inl (nI m)), o4] [] := by
    refine dn (Q := fun m => ∀ (pa' : Nat → Int32) (o4 : Option zV), (∀ k, k < n → pa' k = nI (if k < m then tp1 X s (p s) p k else p k)) → Z (MW (nI n) ycap ych ycf yct ycw yfl ysd (pa') yla ybw ywo (nI X) (nI w)) 15 [some (.inr (.inl 0)), some (.inl (nI s)), some (.inl (nI (p s))), some (.inl (nI m)), o4] []) ?_ ?_
    · intro pa' o4 h
      have h1 : ∀ k, k < n → pa' k = nI (tp1 X s (p s) p k) := fun k hk => by rw [h k hk, if_pos hk]
      have p1lt : ∀ k, k < n → tp1 X s (p s) p k < n := fun k hk => by
        unfold tp1; split
        · exact hs
        · exact hT.2.1 k hk
      have nosw : ¬ (p s ≠ 0 ∧ X.testBit (tp1 X s (p s) p (p s)) = true) → P none (MW (nI n) ycap ych ycf yct ycw yfl ysd (pa') (upd yla s (nI w)) ybw ywo (nI X) (nI w)) := by
        intro hq
        have et : tst X w s (p s) (p, la) = (tp1 X s (p s) p, va_up la s w) := if_neg hq
        refine hp pa' _ _ _ ?_ ?_
        · rw [et]; exact h1
        · rw [et]; exact up_row0 hla
      refine hZ [] 90 _ _ _ _ ?_
      refine pk_le n n (fun _ => ?_) (fun c => absurd c (by omega))
      refine And.intro (fun c => ?_) (fun c => ?_)
      · have h0 : p s = 0 := (nI_eq (by omega) (by omega)).mp (show nI (p s) = nI 0 from c)
        refine And.intro (in12 (by omega)) ?_
        rw [cl12 (by omega)]
        exact nosw (fun q => q.1 h0)
      · have h0 : p s ≠ 0 := fun e => c (by rw [e]; rfl)
        have hptn := p1lt (p s) htn
        refine And.intro (in12 (by omega)) ?_
        rw [cl12 (by omega), h1 _ htn]
        refine HX5_isIn rfl rfl (by omega) (by omega) ?_
        refine bz (fun hb => ?_) (fun hb => ?_)
        · refine And.intro (in12 (by omega)) ?_
          rw [cl12 (by omega)]
          exact nosw (fun q => by rw [hb] at q; cases q.2)
        · refine And.intro (in12 (by omega)) ?_
          rw [cl12 (by omega), h1 _ htn]
          refine And.intro (in12 (by omega)) ?_
          rw [cl12 (by omega)]
          refine And.intro (in12 (by omega)) ?_
          rw [cl12 (by omega), hla _ (by omega) htn]
          refine And.intro (in12 (by omega)) ?_
          rw [cl12 (by omega)]
          refine And.intro (in12 (by omega)) ?_
          rw [cl12 (by omega)]
          refine And.intro (in12 (by omega)) ?_
          rw [cl12 (by omega)]
          have et : tst X w s (p s) (p, la) = (va_up (va_up (tp1 X s (p s) p) s (tp1 X s (p s) p (p s))) (p s) s, va_up (va_up la s (la (p s))) (p s) w) := if_pos ⟨h0, hb⟩
          refine hp _ _ _ _ ?_ ?_
          · rw [et]; exact up_row (up_row h1)
          · rw [et]; exact up_row0 (up_row0 hla)
    · intro m hm ih pa' o4 h
      have em : pa' m = nI (p m) := by rw [h m hm, if_neg (Nat.lt_irrefl m)]
      have hpm := hT.2.1 m hm
      -- the value that is stored is right
      have fin : ∀ (v : Nat) (o4 : Option zV), v = tp1 X s (p s) p m → Z (MW (nI n) ycap ych ycf yct ycw yfl ysd (upd pa' m (nI v)) yla ybw ywo (nI X) (nI w)) 15 [some (.inr (.inl 0)), some (.inl (nI s)), some (.inl (nI (p s))), some (.inl (nI m + 1)), o4] [] := by
        intro v o4 ev
        have h9 := ih (upd pa' m (nI v)) o4 (fun k hk => by
          by_cases e : k = m
          · subst e; rw [pk_us, if_pos (by omega), ev]
          · rw [pk_un e, h k hk]
            by_cases q : k < m
            · rw [if_pos q, if_pos (by omega)]
            · rw [if_neg q, if_neg (by omega)])
        rw [nI_succ m] at h9
        exact h9
      have no : tp1 X s (p s) p m = p m → Z (MW (nI n) ycap ych ycf yct ycw yfl ysd (pa') yla ybw ywo (nI X) (nI w)) 57 [some (.inr (.inl 0)), some (.inl (nI s)), some (.inl (nI (p s))), some (.inl (nI m)), o4] [] := by
        intro e
        refine hZ [15] 40 _ _ _ _ ?_
        refine And.intro (fun _ => ?_) (fun c => absurd rfl c)
        refine And.intro (in12 (by omega)) ?_
        rw [cl12 (by omega), em]
        refine And.intro (in12 (by omega)) ?_
        rw [cl12 (by omega)]
        exact fin (p m) _ e.symm
      refine hZ [57, 15] 90 _ _ _ _ ?_
      refine pk_le n m (fun c => absurd c (by omega)) (fun _ => ?_)
      refine pk_eq m s (fun e => ?_) (fun e => ?_)
      · exact no (by simp [tp1, e])
      · refine And.intro (fun c => ?_) (fun c => ?_)
        · have h0 : m = 0 := (nI_eq (by omega) (by omega)).mp (show nI m = nI 0 from c)
          exact no (by simp [tp1, h0])
        · have h0 : m ≠ 0 := fun e => c (by rw [e]; rfl)
          refine HX5_isIn rfl rfl (by omega) (by omega) ?_
          refine bz (fun hb => ?_) (fun hb => ?_)
          · exact no (by simp [tp1, hb])
          · refine And.intro (in12 (by omega)) ?_
            rw [cl12 (by omega), em]
            refine And.intro (fun e2 => ?_) (fun e2 => ?_)
            · exact no (by simp [tp1, show ¬ p m = p s from fun q => e2 (by rw [q])])
            · have e2 : p m = p s := (nI_eq (by omega) (by omega)).mp e2
              refine And.intro (fun c => absurd c (by decide)) (fun _ => ?_)
              refine And.intro (in12 (by omega)) ?_
              rw [cl12 (by omega)]
              exact fin s _ (by unfold tp1; rw [if_pos ⟨e, h0, hb, e2⟩])
  refine hZ [15] 40 _ _ _ _ ?_
  refine And.intro (in12 (by omega)) ?_
  rw [cl12 (by omega), hpa s hs]
  refine HX5_findNear hG0 hwo rfl rfl hs htn (Ne.symm hts) ?_
  rw [hXe, hwe]
  exact loop 0 (by omega) ypa none (fun k hk => by rw [if_neg (by omega)]; exact hpa k hk)
theorem zX5_joinNode (l : Launch) : zMet l yX5_joinNode cX5_joinNode 5 none rX5_joinNode kX5_joinNode := zMet_of (by decide) ⟨rfl, rfl⟩ (oX5_joinNode l) (fun as0 st0 P h => by
  obtain ⟨yn, ycap, ych, ycf, yct, ycw, yfl, ysd, ypa, yla, ybw, ywo, yns, ynw, n, K, s, p, la, a, h0, h1, h2, h3, h4, h5, h6, h7, rfl, rfl, hz⟩ := h
  exact ⟨Nat.le_of_ble_eq_true rfl, fun Z hZ => wX5_joinNode eX5_findNear eX5_isIn h0 h1 h2 h3 h4 h5 h6 h7 hz hZ⟩)

/-- makeTree() -/
def kX5_makeTree : zK := fun as0 st0 P => ∃ σ : zS, ∃ a : AS, (mSt a σ) ∧ as0 = [.inr (.inl 0)] ∧ st0 = σ ∧ (∀ σ', mSt (rb a) σ' → P none σ')
def iX5_makeTree (C0 : zK) : Prop := ∀ {σ : zS} {a : AS} {P : zP}, (mSt a σ) → (∀ σ', mSt (rb a) σ' → P none σ') → C0 [.inr (.inl 0)] (σ) P
theorem eX5_makeTree : iX5_makeTree kX5_makeTree := by
  intro σ a P h0 hz
  exact ⟨σ, a, h0, rfl, rfl, hz⟩
theorem oX5_makeTree (l : Launch) : zOK l RX5 cX5_makeTree rX5_makeTree none (tX5_makeTree, fX5, gX5, [(95, 0, 5, kX5_layWeights), (98, 1, 5, kX5_joinNode)], [], 0) := ⟨tX5_makeTree_ok, fX5_ok, gX5_ok, List.forall_mem_cons.mpr ⟨⟨yX5_layWeights, cX5_layWeights, 6, none, rX5_layWeights, zX5_layWeights l, by decide +kernel, ykX5_layWeights, lkX5_95⟩, List.forall_mem_cons.mpr ⟨⟨yX5_joinNode, cX5_joinNode, 5, none, rX5_joinNode, zX5_joinNode l, by decide +kernel, ykX5_joinNode, lkX5_98⟩, fun _ h => absurd h List.not_mem_nil⟩⟩, by decide +kernel, rfl⟩
set_option maxRecDepth 100000 in
set_option maxHeartbeats 4000000 in
theorem wX5_makeTree {CX5_layWeights : zK} (HX5_layWeights : iX5_layWeights CX5_layWeights) {CX5_joinNode : zK} (HX5_joinNode : iX5_joinNode CX5_joinNode) {σ : zS} {a : AS} {P : zP} (hσ : mSt a σ) (hp : ∀ σ', mSt (rb a) σ' → P none σ') {Z : zH} (hZ : zcl (tX5_makeTree, fX5, gX5, [(95, 0, 5, CX5_layWeights), (98, 1, 5, CX5_joinNode)], [], 0) P Z) : Z (σ) 0 [some (.inr (.inl 0)), none] [] := by
  obtain ⟨n, K, L, F, ob⟩ := a
  obtain ⟨yn, ycap, ych, ycf, yct, ycw, yfl, ysd, ypa, yla, ybw, ywo, yns, ynw, rfl, hG, hR, hF, hT⟩ := hσ
  dsimp only at hG hR hF hT
  have hG0 := hG
  obtain ⟨rfl, hn1, hn2, hcap, hK⟩ := hG
  subst hF
  have copy : ∀ (fl' : Int32) (pa' la' wo' : Nat → Int32) (ns' nw' : Int32), fl' = F + nI (n - 1) → (∀ k, k < n → pa' k = nI (tp n K k)) → (∀ k, 0 < k → k < n → la' k = nI (tl n K k)) → ∀ x, x ≤ 144 → ∀ bw', (∀ y, y < x → bw' y = ycap y) → Z (MW (nI n) ycap ych ycf yct ycw (fl') ysd (pa') (la') (bw') (wo') (ns') (nw')) 67 [some (.inr (.inl 0)), some (.inl (nI x))] [] := by
    intro fl' pa' la' wo' ns' nw' hfl h1 h2
    refine dn (Q := fun x => ∀ bw', (∀ y, y < x → bw' y = ycap y) → Z (MW (nI n) ycap ych ycf yct ycw (fl') ysd (pa') (la') (bw') (wo') (ns') (nw')) 67 [some (.inr (.inl 0)), some (.inl (nI x))] []) ?_ ?_
    · intro bw' h
      refine hZ [] 40 _ _ _ _ ?_
      refine pk_le 144 144 (fun _ => ?_) (fun c => absurd c (by omega))
      refine And.intro (Or.inr rfl) ?_
      exact hp _ (mSt_mk hG0 hR hfl.symm (Or.inr ⟨K, rfl, rfl, hK, fun i j hi hj => by rw [h _ (by omega)]; exact hcap i j hi hj, h1, h2⟩))
    · intro x hx ih bw' h
      refine hZ [67] 40 _ _ _ _ ?_
      refine pk_le 144 x (fun c => absurd c (by omega)) (fun _ => ?_)
      refine And.intro (in144 hx) ?_
      rw [cl144 hx]
      refine And.intro (in144 hx) ?_
      rw [cl144 hx]
      have h9 := ih (upd bw' x (ycap x)) (fun y hy => by
        by_cases e : y = x
        · subst e; rw [pk_us]
        · rw [pk_un e]; exact h y (by omega))
      rw [nI_succ x] at h9
      exact h9
  have grow : ∀ wo' : Nat → Int32, (∀ S, S < 2 ^ n → wo' S = nI (wt n K S)) → ∀ m, m ≤ n - 1 → ∀ (fl' : Int32) (pa' la' : Nat → Int32) (ns' nw' : Int32), fl' = F + nI m → (∀ k, k < n → pa' k = nI ((trs n K m).1 k)) → (∀ k, 0 < k → k < n → la' k = nI ((trs n K m).2 k)) → Z (MW (nI n) ycap ych ycf yct ycw (fl') ysd (pa') (la') ybw (wo') (ns') (nw')) 36 [some (.inr (.inl 0)), some (.inl (nI (m + 1)))] [] := by
    intro wo' hwo
    refine dn (Q := fun m => ∀ (fl' : Int32) (pa' la' : Nat → Int32) (ns' nw' : Int32), fl' = F + nI m → (∀ k, k < n → pa' k = nI ((trs n K m).1 k)) → (∀ k, 0 < k → k < n → la' k = nI ((trs n K m).2 k)) → Z (MW (nI n) ycap ych ycf yct ycw (fl') ysd (pa') (la') ybw (wo') (ns') (nw')) 36 [some (.inr (.inl 0)), some (.inl (nI (m + 1)))] []) ?_ ?_
    · intro fl' pa' la' ns' nw' h1 h2 h3
      refine hZ [67] 40 _ _ _ _ ?_
      refine pk_le n (n - 1 + 1) (fun _ => ?_) (fun c => absurd c (by omega))
      exact copy fl' pa' la' wo' ns' nw' h1 h2 h3 0 (by omega) ybw (fun y hy => absurd hy (by omega))
    · intro m hm ih fl' pa' la' ns' nw' h1 h2 h3
      have hTI := tI_trs K (by omega : 0 < n) m (by omega)
      refine hZ [36] 60 _ _ _ _ ?_
      refine pk_le n (m + 1) (fun c => absurd c (by omega)) (fun _ => ?_)
      refine HX5_joinNode hG0 hwo rfl (by omega) (by omega) h2 h3 hTI (fun pa2 la2 ns2 nw2 g1 g2 => ?_)
      have h9 := ih (fl' + 1) pa2 la2 ns2 nw2 (by rw [h1, nI_succ m, Int32.add_assoc]) g1 g2
      rw [nI_succ (m + 1)] at h9
      exact h9
  refine hZ [6] 40 _ _ _ _ ?_
  refine HX5_layWeights hG0 (fun wo' hwo => ?_)
  have zero : ∀ m, m ≤ n → ∀ (pa' la' : Nat → Int32), (∀ k, k < m → pa' k = 0) → (∀ k, k < m → la' k = 0) → Z (MW (nI n) ycap ych ycf yct ycw (F) ysd (pa') (la') ybw (wo') yns ynw) 6 [some (.inr (.inl 0)), some (.inl (nI m))] [] := by
    refine dn (Q := fun m => ∀ (pa' la' : Nat → Int32), (∀ k, k < m → pa' k = 0) → (∀ k, k < m → la' k = 0) → Z (MW (nI n) ycap ych ycf yct ycw (F) ysd (pa') (la') ybw (wo') yns ynw) 6 [some (.inr (.inl 0)), some (.inl (nI m))] []) ?_ ?_
    · intro pa' la' h1 h2
      refine hZ [36] 40 _ _ _ _ ?_
      refine pk_le n n (fun _ => ?_) (fun c => absurd c (by omega))
      exact grow wo' hwo 0 (by omega) F pa' la' yns ynw (by rw [nI_0, Int32.add_zero]) (fun k hk => h1 k hk) (fun k _ hk => h2 k hk)
    · intro m hm ih pa' la' h1 h2
      refine hZ [6] 40 _ _ _ _ ?_
      refine pk_le n m (fun c => absurd c (by omega)) (fun _ => ?_)
      refine And.intro (in12 (by omega)) ?_
      rw [cl12 (by omega)]
      refine And.intro (in12 (by omega)) ?_
      rw [cl12 (by omega)]
      have up : ∀ (f : Nat → Int32), (∀ k, k < m → f k = 0) → ∀ k, k < m + 1 → upd f m 0 k = 0 := fun f hf k hk => by
        by_cases e : k = m
        · subst e; rw [pk_us]
        · rw [pk_un e]; exact hf k (by omega)
      have h9 := ih (upd pa' m 0) (upd la' m 0) (up pa' h1) (up la' h2)
      rw [nI_succ m] at h9
      exact h9
  exact zero 0 (by omega) ypa yla (fun k hk => absurd hk (by omega)) (fun k hk => absurd hk (by omega))
theorem zX5_makeTree (l : Launch) : zMet l yX5_makeTree cX5_makeTree 2 none rX5_makeTree kX5_makeTree := zMet_of (by decide) ⟨rfl, rfl⟩ (oX5_makeTree l) (fun as0 st0 P h => by
  obtain ⟨σ, a, h0, rfl, rfl, hz⟩ := h
  exact ⟨Nat.le_of_ble_eq_true rfl, fun Z hZ => wX5_makeTree eX5_layWeights eX5_joinNode h0 hz hZ⟩)

/-- isNew() -/
def kX5_isNew : zK := fun as0 st0 P => ∃ yn : Int32, ∃ ycap : Nat → Int32, ∃ ych : Int32, ∃ ycf : Nat → Int32, ∃ yct : Nat → Int32, ∃ ycw : Nat → Int32, ∃ yfl : Int32, ∃ ysd : Int32, ∃ ypa : Nat → Int32, ∃ yla : Nat → Int32, ∃ ybw : Nat → Int32, ∃ ywo : Nat → Int32, ∃ yns : Int32, ∃ ynw : Int32, ∃ n : Nat, ∃ K : Nat → Nat → Nat, ∃ ob : Option (Nat → Nat → Nat), (mG yn ycap n K) ∧ (mT n ysd ypa yla ybw ob) ∧ as0 = [.inr (.inl 0)] ∧ st0 = (MW yn ycap ych ycf yct ycw yfl ysd ypa yla ybw ywo yns ynw) ∧ (∀ b : Bool, (b = true ↔ ob = some K) → P (some (.inl (b2i b))) (MW yn ycap ych ycf yct ycw yfl ysd ypa yla ybw ywo yns ynw))
def iX5_isNew (C0 : zK) : Prop := ∀ {yn : Int32} {ycap : Nat → Int32} {ych : Int32} {ycf : Nat → Int32} {yct : Nat → Int32} {ycw : Nat → Int32} {yfl : Int32} {ysd : Int32} {ypa : Nat → Int32} {yla : Nat → Int32} {ybw : Nat → Int32} {ywo : Nat → Int32} {yns : Int32} {ynw : Int32} {n : Nat} {K : Nat → Nat → Nat} {ob : Option (Nat → Nat → Nat)} {P : zP}, (mG yn ycap n K) → (mT n ysd ypa yla ybw ob) → (∀ b : Bool, (b = true ↔ ob = some K) → P (some (.inl (b2i b))) (MW yn ycap ych ycf yct ycw yfl ysd ypa yla ybw ywo yns ynw)) → C0 [.inr (.inl 0)] ((MW yn ycap ych ycf yct ycw yfl ysd ypa yla ybw ywo yns ynw)) P
theorem eX5_isNew : iX5_isNew kX5_isNew := by
  intro yn ycap ych ycf yct ycw yfl ysd ypa yla ybw ywo yns ynw n K ob P h0 h1 hz
  exact ⟨yn, ycap, ych, ycf, yct, ycw, yfl, ysd, ypa, yla, ybw, ywo, yns, ynw, n, K, ob, h0, h1, rfl, rfl, hz⟩
theorem oX5_isNew (l : Launch) : zOK l RX5 cX5_isNew rX5_isNew (some .boolean) (tX5_isNew, fX5, gX5, [], [], 2) := ⟨tX5_isNew_ok, fX5_ok, gX5_ok, fun _ h => absurd h List.not_mem_nil, by decide +kernel, rfl⟩
set_option maxRecDepth 100000 in
set_option maxHeartbeats 4000000 in
theorem wX5_isNew {yn : Int32} {ycap : Nat → Int32} {ych : Int32} {ycf : Nat → Int32} {yct : Nat → Int32} {ycw : Nat → Int32} {yfl : Int32} {ysd : Int32} {ypa : Nat → Int32} {yla : Nat → Int32} {ybw : Nat → Int32} {ywo : Nat → Int32} {yns : Int32} {ynw : Int32} {n : Nat} {K : Nat → Nat → Nat} {ob : Option (Nat → Nat → Nat)} {P : zP} (hG : mG yn ycap n K) (hT : mT n ysd ypa yla ybw ob) (hp : ∀ b : Bool, (b = true ↔ ob = some K) → P (some (.inl (b2i b))) (MW yn ycap ych ycf yct ycw yfl ysd ypa yla ybw ywo yns ynw)) {Z : zH} (hZ : zcl (tX5_isNew, fX5, gX5, [], [], 2) P Z) : Z ((MW yn ycap ych ycf yct ycw yfl ysd ypa yla ybw ywo yns ynw)) 0 [some (.inr (.inl 0)), none, none] [] := by
  obtain ⟨rfl, hn1, hn2, hcap, hK⟩ := hG
  have loop : ∀ x, x ≤ 144 → ∀ b : Bool, (b = true ↔ (∃ B, ob = some B) ∧ ∀ y, y < x → ybw y = ycap y) → Z (MW (nI n) ycap ych ycf yct ycw yfl ysd ypa yla ybw ywo yns ynw) 7 [some (.inr (.inl 0)), some (.inl (b2i b)), some (.inl (nI x))] [] := by
    refine dn (Q := fun x => ∀ b : Bool, (b = true ↔ (∃ B, ob = some B) ∧ ∀ y, y < x → ybw y = ycap y) → Z (MW (nI n) ycap ych ycf yct ycw yfl ysd ypa yla ybw ywo yns ynw) 7 [some (.inr (.inl 0)), some (.inl (b2i b)), some (.inl (nI x))] []) ?_ ?_
    · intro b hb
      refine hZ [] 40 _ _ _ _ ?_
      refine pk_le 144 144 (fun _ => ?_) (fun c => absurd c (by omega))
      refine And.intro (b2i01 b) (hp b ?_)
      rw [hb]
      constructor
      · rintro ⟨⟨B, e⟩, h⟩
        rw [e] at hT ⊢
        obtain ⟨-, hB, hbw, -, -⟩ := mT_some hT
        have : B = K := gK_ext hB hK (fun i j h1 h2 => by
          have e1 := hbw i j (by omega) (by omega)
          have e2 := hcap i j (by omega) (by omega)
          rw [h _ (by omega), e2] at e1
          have b1 := hB.1 i j
          have b2 := hK.1 i j
          exact ((nI_eq (by omega) (by omega)).mp e1).symm)
        rw [this]
      · intro e
        refine ⟨⟨K, e⟩, fun y hy => ?_⟩
        rw [e] at hT
        obtain ⟨-, -, hbw, -, -⟩ := mT_some hT
        have h1 := hbw (y / 12) (y % 12) (by omega) (by omega)
        have h2 := hcap (y / 12) (y % 12) (by omega) (by omega)
        rw [show 12 * (y / 12) + y % 12 = y by omega] at h1 h2
        rw [h1, h2]
    · intro x hx ih b hb
      refine hZ [7] 40 _ _ _ _ ?_
      refine pk_le 144 x (fun c => absurd c (by omega)) (fun _ => ?_)
      refine bz (fun h => ?_) (fun h => ?_)
      · have h9 := ih false ⟨fun q => absurd q (by decide), fun q => by
          rw [← h]
          exact hb.mpr ⟨q.1, fun y hy => q.2 y (by omega)⟩⟩
        rw [nI_succ x] at h9
        exact h9
      · refine And.intro (in144 hx) ?_
        rw [cl144 hx]
        refine And.intro (in144 hx) ?_
        rw [cl144 hx]
        refine And.intro (fun c => ?_) (fun c => ?_)
        · have h9 := ih false ⟨fun q => absurd q (by decide), fun q => absurd (q.2 x (by omega)) c⟩
          rw [nI_succ x] at h9
          exact h9
        · have h9 := ih true ⟨fun _ => ⟨(hb.mp h).1, fun y hy => by
            by_cases e : y = x
            · subst e; exact c
            · exact (hb.mp h).2 y (by omega)⟩, fun _ => rfl⟩
          rw [nI_succ x] at h9
          exact h9
  refine hZ [7] 40 _ _ _ _ ?_
  rcases mT_0 hT with ⟨e, e2⟩ | ⟨e, B, e2⟩
  · have h0 := loop 0 (by omega) false ⟨fun q => absurd q (by decide), fun q => by obtain ⟨⟨B, q⟩, -⟩ := q; rw [e2] at q; cases q⟩
    subst e
    exact h0
  · have h0 := loop 0 (by omega) true ⟨fun _ => ⟨⟨B, e2⟩, fun y hy => absurd hy (by omega)⟩, fun _ => rfl⟩
    subst e
    exact h0
theorem zX5_isNew (l : Launch) : zMet l yX5_isNew cX5_isNew 3 (some .boolean) rX5_isNew kX5_isNew := zMet_of (by decide) ⟨rfl, rfl⟩ (oX5_isNew l) (fun as0 st0 P h => by
  obtain ⟨yn, ycap, ych, ycf, yct, ycw, yfl, ysd, ypa, yla, ybw, ywo, yns, ynw, n, K, ob, h0, h1, rfl, rfl, hz⟩ := h
  exact ⟨Nat.le_of_ble_eq_true rfl, fun Z hZ => wX5_isNew h0 h1 hz hZ⟩)

/-- freshen() -/
def kX5_freshen : zK := fun as0 st0 P => ∃ σ : zS, ∃ a : AS, (mSt a σ) ∧ as0 = [.inr (.inl 0)] ∧ st0 = σ ∧ (∀ a' σ', rF a a' → mSt a' σ' → P none σ')
def iX5_freshen (C0 : zK) : Prop := ∀ {σ : zS} {a : AS} {P : zP}, (mSt a σ) → (∀ a' σ', rF a a' → mSt a' σ' → P none σ') → C0 [.inr (.inl 0)] (σ) P
theorem eX5_freshen : iX5_freshen kX5_freshen := by
  intro σ a P h0 hz
  exact ⟨σ, a, h0, rfl, rfl, hz⟩
theorem oX5_freshen (l : Launch) : zOK l RX5 cX5_freshen rX5_freshen none (tX5_freshen, fX5, gX5, [(102, 0, 5, kX5_isNew), (106, 0, 5, kX5_makeTree)], [], 0) := ⟨tX5_freshen_ok, fX5_ok, gX5_ok, List.forall_mem_cons.mpr ⟨⟨yX5_isNew, cX5_isNew, 3, (some .boolean), rX5_isNew, zX5_isNew l, by decide +kernel, ykX5_isNew, lkX5_102⟩, List.forall_mem_cons.mpr ⟨⟨yX5_makeTree, cX5_makeTree, 2, none, rX5_makeTree, zX5_makeTree l, by decide +kernel, ykX5_makeTree, lkX5_106⟩, fun _ h => absurd h List.not_mem_nil⟩⟩, by decide +kernel, rfl⟩
set_option maxRecDepth 100000 in
set_option maxHeartbeats 4000000 in
theorem wX5_freshen {CX5_isNew : zK} (HX5_isNew : iX5_isNew CX5_isNew) {CX5_makeTree : zK} (HX5_makeTree : iX5_makeTree CX5_makeTree) {σ : zS} {a : AS} {P : zP} (hσ : mSt a σ) (hp : ∀ a' σ', rF a a' → mSt a' σ' → P none σ') {Z : zH} (hZ : zcl (tX5_freshen, fX5, gX5, [(102, 0, 5, CX5_isNew), (106, 0, 5, CX5_makeTree)], [], 0) P Z) : Z (σ) 0 [some (.inr (.inl 0))] [] := by
  have hσ0 := hσ
  obtain ⟨n, K, L, F, ob⟩ := a
  obtain ⟨yn, ycap, ych, ycf, yct, ycw, yfl, ysd, ypa, yla, ybw, ywo, yns, ynw, rfl, hG, hR, hF, hT⟩ := hσ
  dsimp only at hG hR hF hT
  refine hZ [] 60 _ _ _ _ ?_
  refine HX5_isNew hG hT (fun b hb => ?_)
  refine bn (fun h => ?_) (fun h => ?_)
  · exact hp _ _ (Or.inl ⟨hb.mp h, rfl⟩) hσ0
  · refine HX5_makeTree hσ0 (fun σ' h' => ?_)
    exact hp _ _ (Or.inr ⟨fun q => (by rw [hb.mpr q] at h; cases h), rfl⟩) h'
theorem zX5_freshen (l : Launch) : zMet l yX5_freshen cX5_freshen 1 none rX5_freshen kX5_freshen := zMet_of (by decide) ⟨rfl, rfl⟩ (oX5_freshen l) (fun as0 st0 P h => by
  obtain ⟨σ, a, h0, rfl, rfl, hz⟩ := h
  exact ⟨Nat.le_of_ble_eq_true rfl, fun Z hZ => wX5_freshen eX5_isNew eX5_makeTree h0 hz hZ⟩)

