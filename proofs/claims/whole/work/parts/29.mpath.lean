/-! THE REFERENCE: sides, paths, bounds. -/
theorem anb_all {n : Nat} {p : Nat → Nat} (h : tI n p) {k x : Nat} (hx : x < n) : anb p k n x = true ↔ ∃ d, it p d x = k := by
  rw [← sd_iff h hx, sd, bset_bit]
  simp [hx]
/-- sideOf(k) -/
def kX5_sideOf : zK := fun as0 st0 P => ∃ yn : Int32, ∃ ycap : Nat → Int32, ∃ ych : Int32, ∃ ycf : Nat → Int32, ∃ yct : Nat → Int32, ∃ ycw : Nat → Int32, ∃ yfl : Int32, ∃ ysd : Int32, ∃ ypa : Nat → Int32, ∃ yla : Nat → Int32, ∃ ybw : Nat → Int32, ∃ ywo : Nat → Int32, ∃ yns : Int32, ∃ ynw : Int32, ∃ n : Nat, ∃ p : Nat → Nat, ∃ k : Nat, ∃ a : Int32, (nI n = yn) ∧ (n ≤ 12) ∧ (∀ j, j < n → ypa j = nI (p j)) ∧ (tI n p) ∧ (a = nI k) ∧ (k < n) ∧ as0 = [.inr (.inl 0), .inl a] ∧ st0 = (MW yn ycap ych ycf yct ycw yfl ysd ypa yla ybw ywo yns ynw) ∧ (P (some (.inl (nI (sd n p k)))) (MW yn ycap ych ycf yct ycw yfl ysd ypa yla ybw ywo yns ynw))
def iX5_sideOf (C0 : zK) : Prop := ∀ {yn : Int32} {ycap : Nat → Int32} {ych : Int32} {ycf : Nat → Int32} {yct : Nat → Int32} {ycw : Nat → Int32} {yfl : Int32} {ysd : Int32} {ypa : Nat → Int32} {yla : Nat → Int32} {ybw : Nat → Int32} {ywo : Nat → Int32} {yns : Int32} {ynw : Int32} {n : Nat} {p : Nat → Nat} {k : Nat} {a : Int32} {P : zP}, (nI n = yn) → (n ≤ 12) → (∀ j, j < n → ypa j = nI (p j)) → (tI n p) → (a = nI k) → (k < n) → (P (some (.inl (nI (sd n p k)))) (MW yn ycap ych ycf yct ycw yfl ysd ypa yla ybw ywo yns ynw)) → C0 [.inr (.inl 0), .inl a] ((MW yn ycap ych ycf yct ycw yfl ysd ypa yla ybw ywo yns ynw)) P
theorem eX5_sideOf : iX5_sideOf kX5_sideOf := by
  intro yn ycap ych ycf yct ycw yfl ysd ypa yla ybw ywo yns ynw n p k a P h0 h1 h2 h3 h4 h5 hz
  exact ⟨yn, ycap, ych, ycf, yct, ycw, yfl, ysd, ypa, yla, ybw, ywo, yns, ynw, n, p, k, a, h0, h1, h2, h3, h4, h5, rfl, rfl, hz⟩
theorem oX5_sideOf (l : Launch) : zOK l RX5 cX5_sideOf rX5_sideOf (some .int) (tX5_sideOf, fX5, gX5, [], [], 1) := ⟨tX5_sideOf_ok, fX5_ok, gX5_ok, fun _ h => absurd h List.not_mem_nil, by decide +kernel, rfl⟩
set_option maxRecDepth 100000 in
set_option maxHeartbeats 4000000 in
theorem wX5_sideOf {yn : Int32} {ycap : Nat → Int32} {ych : Int32} {ycf : Nat → Int32} {yct : Nat → Int32} {ycw : Nat → Int32} {yfl : Int32} {ysd : Int32} {ypa : Nat → Int32} {yla : Nat → Int32} {ybw : Nat → Int32} {ywo : Nat → Int32} {yns : Int32} {ynw : Int32} {n : Nat} {p : Nat → Nat} {k : Nat} {a : Int32} {P : zP} (hn : nI n = yn) (hn2 : n ≤ 12) (hpa : ∀ j, j < n → ypa j = nI (p j)) (hT : tI n p) (ha : a = nI k) (hk : k < n) (hp : P (some (.inl (nI (sd n p k)))) (MW yn ycap ych ycf yct ycw yfl ysd ypa yla ybw ywo yns ynw)) {Z : zH} (hZ : zcl (tX5_sideOf, fX5, gX5, [], [], 1) P Z) : Z ((MW yn ycap ych ycf yct ycw yfl ysd ypa yla ybw ywo yns ynw)) 0 [some (.inr (.inl 0)), some (.inl a), none, none, none] [] := by
  subst ha hn
  have outer : ∀ x, x ≤ n → ∀ o, Z (MW (nI n) ycap ych ycf yct ycw yfl ysd ypa yla ybw ywo yns ynw) 4 [some (.inr (.inl 0)), some (.inl (nI k)), some (.inl (nI (bset (fun x => anb p k n x) x))), some (.inl (nI x)), o] [] := by
    refine dn (Q := fun x => ∀ o, Z (MW (nI n) ycap ych ycf yct ycw yfl ysd ypa yla ybw ywo yns ynw) 4 [some (.inr (.inl 0)), some (.inl (nI k)), some (.inl (nI (bset (fun x => anb p k n x) x))), some (.inl (nI x)), o] []) ?_ ?_
    · intro o
      refine hZ [] 40 _ _ _ _ ?_
      exact pk_le n n (fun _ => hp) (fun c => absurd c (by omega))
    · intro x hx ih o
      have walk : ∀ (d y : Nat), y < n → it p d y = 0 → (∀ z, z < n → ((z = k ∧ ∃ j, it p j y = k) ∨ (z ≠ k ∧ ∀ j, it p j y ≠ k)) → Z (MW (nI n) ycap ych ycf yct ycw yfl ysd ypa yla ybw ywo yns ynw) 38 [some (.inr (.inl 0)), some (.inl (nI k)), some (.inl (nI (bset (fun x => anb p k n x) x))), some (.inl (nI x)), some (.inl (nI z))] []) → Z (MW (nI n) ycap ych ycf yct ycw yfl ysd ypa yla ybw ywo yns ynw) 15 [some (.inr (.inl 0)), some (.inl (nI k)), some (.inl (nI (bset (fun x => anb p k n x) x))), some (.inl (nI x)), some (.inl (nI y))] [] := by
        intro d
        induction d with
        | zero =>
          intro y hy h0 hk9
          obtain rfl : y = 0 := h0
          refine hZ [38] 40 _ _ _ _ ?_
          refine pk_eq 0 k (fun c => ?_) (fun c => ?_)
          · exact hk9 0 hy (Or.inl ⟨c, 0, c⟩)
          · refine And.intro (fun _ => ?_) (fun c => absurd rfl c)
            exact hk9 0 hy (Or.inr ⟨c, fun j => by rw [it_zero hT.1]; exact c⟩)
        | succ d ih2 =>
          intro y hy h0 hk9
          refine hZ [38, 15] 40 _ _ _ _ ?_
          refine pk_eq y k (fun c => ?_) (fun c => ?_)
          · exact hk9 y hy (Or.inl ⟨c, 0, c⟩)
          · refine And.intro (fun c2 => ?_) (fun c2 => ?_)
            · have h00 : y = 0 := (nI_eq (by omega) (by omega)).mp (show nI y = nI 0 from c2)
              exact hk9 y hy (Or.inr ⟨c, fun j => by rw [h00, it_zero hT.1, ← h00]; exact c⟩)
            · refine And.intro (in12 (by omega)) ?_
              rw [cl12 (by omega), hpa y hy]
              refine ih2 (p y) (hT.2.1 y hy) h0 (fun z hz hq => hk9 z hz ?_)
              rcases hq with ⟨e, j, hj⟩ | ⟨e, hj⟩
              · exact Or.inl ⟨e, j + 1, hj⟩
              · refine Or.inr ⟨e, fun j => ?_⟩
                cases j with
                | zero => exact c
                | succ j => exact hj j
      obtain ⟨d, hd⟩ := hT.2.2 x hx
      refine hZ [15] 40 _ _ _ _ ?_
      refine pk_le n x (fun c => absurd c (by omega)) (fun _ => ?_)
      refine walk d x hx hd (fun z hz hq => ?_)
      refine hZ [4] 40 _ _ _ _ ?_
      have h9 := ih (some (.inl (nI z)))
      rw [nI_succ x, bset, ← bI_or] at h9
      refine And.intro (fun c => ?_) (fun c => ?_)
      · have hb : anb p k n x = false := by
          cases e : anb p k n x with
          | false => rfl
          | true =>
            rcases hq with ⟨e2, -⟩ | ⟨-, hj⟩
            · exact absurd (by rw [e2]) c
            · obtain ⟨j, hj2⟩ := (anb_all hT hx).mp e
              exact absurd hj2 (hj j)
        rw [hb, if_neg (by decide)] at h9
        exact h9
      · have hzk : z = k := (nI_eq (by omega) (by omega)).mp c
        have hb : anb p k n x = true := by
          rcases hq with ⟨-, hj⟩ | ⟨e2, -⟩
          · exact (anb_all hT hx).mpr hj
          · exact absurd hzk e2
        rw [hb, if_pos rfl, ← bI_only (by omega)] at h9
        exact h9
  refine hZ [4] 40 _ _ _ _ ?_
  exact outer 0 (by omega) none
theorem zX5_sideOf (l : Launch) : zMet l yX5_sideOf cX5_sideOf 5 (some .int) rX5_sideOf kX5_sideOf := zMet_of (by decide) ⟨rfl, rfl⟩ (oX5_sideOf l) (fun as0 st0 P h => by
  obtain ⟨yn, ycap, ych, ycf, yct, ycw, yfl, ysd, ypa, yla, ybw, ywo, yns, ynw, n, p, k, a, h0, h1, h2, h3, h4, h5, rfl, rfl, hz⟩ := h
  exact ⟨Nat.le_of_ble_eq_true rfl, fun Z hZ => wX5_sideOf h0 h1 h2 h3 h4 h5 hz hZ⟩)

/-- isOnPath(k, s, t) -/
def kX5_isOnPath : zK := fun as0 st0 P => ∃ yn : Int32, ∃ ycap : Nat → Int32, ∃ ych : Int32, ∃ ycf : Nat → Int32, ∃ yct : Nat → Int32, ∃ ycw : Nat → Int32, ∃ yfl : Int32, ∃ ysd : Int32, ∃ ypa : Nat → Int32, ∃ yla : Nat → Int32, ∃ ybw : Nat → Int32, ∃ ywo : Nat → Int32, ∃ yns : Int32, ∃ ynw : Int32, ∃ n : Nat, ∃ p : Nat → Nat, ∃ k : Nat, ∃ s : Nat, ∃ t : Nat, ∃ a : Int32, ∃ b : Int32, ∃ c : Int32, (nI n = yn) ∧ (n ≤ 12) ∧ (∀ j, j < n → ypa j = nI (p j)) ∧ (tI n p) ∧ (a = nI k) ∧ (b = nI s) ∧ (c = nI t) ∧ (k < n) ∧ (s < n) ∧ (t < n) ∧ as0 = [.inr (.inl 0), .inl a, .inl b, .inl c] ∧ st0 = (MW yn ycap ych ycf yct ycw yfl ysd ypa yla ybw ywo yns ynw) ∧ (P (some (.inl (b2i (onp n p s t k)))) (MW yn ycap ych ycf yct ycw yfl ysd ypa yla ybw ywo yns ynw))
def iX5_isOnPath (C0 : zK) : Prop := ∀ {yn : Int32} {ycap : Nat → Int32} {ych : Int32} {ycf : Nat → Int32} {yct : Nat → Int32} {ycw : Nat → Int32} {yfl : Int32} {ysd : Int32} {ypa : Nat → Int32} {yla : Nat → Int32} {ybw : Nat → Int32} {ywo : Nat → Int32} {yns : Int32} {ynw : Int32} {n : Nat} {p : Nat → Nat} {k : Nat} {s : Nat} {t : Nat} {a : Int32} {b : Int32} {c : Int32} {P : zP}, (nI n = yn) → (n ≤ 12) → (∀ j, j < n → ypa j = nI (p j)) → (tI n p) → (a = nI k) → (b = nI s) → (c = nI t) → (k < n) → (s < n) → (t < n) → (P (some (.inl (b2i (onp n p s t k)))) (MW yn ycap ych ycf yct ycw yfl ysd ypa yla ybw ywo yns ynw)) → C0 [.inr (.inl 0), .inl a, .inl b, .inl c] ((MW yn ycap ych ycf yct ycw yfl ysd ypa yla ybw ywo yns ynw)) P
theorem eX5_isOnPath : iX5_isOnPath kX5_isOnPath := by
  intro yn ycap ych ycf yct ycw yfl ysd ypa yla ybw ywo yns ynw n p k s t a b c P h0 h1 h2 h3 h4 h5 h6 h7 h8 h9 hz
  exact ⟨yn, ycap, ych, ycf, yct, ycw, yfl, ysd, ypa, yla, ybw, ywo, yns, ynw, n, p, k, s, t, a, b, c, h0, h1, h2, h3, h4, h5, h6, h7, h8, h9, rfl, rfl, hz⟩
theorem oX5_isOnPath (l : Launch) : zOK l RX5 cX5_isOnPath rX5_isOnPath (some .boolean) (tX5_isOnPath, fX5, gX5, [(115, 1, 5, kX5_sideOf), (71, 2, 100, kX5_isIn)], [], 2) := ⟨tX5_isOnPath_ok, fX5_ok, gX5_ok, List.forall_mem_cons.mpr ⟨⟨yX5_sideOf, cX5_sideOf, 5, (some .int), rX5_sideOf, zX5_sideOf l, by decide +kernel, ykX5_sideOf, lkX5_115⟩, List.forall_mem_cons.mpr ⟨⟨yX5_isIn, cX5_isIn, 2, (some .boolean), rX5_isIn, zX5_isIn l, by decide +kernel, ykX5_isIn, lkX5_71⟩, fun _ h => absurd h List.not_mem_nil⟩⟩, by decide +kernel, rfl⟩
set_option maxRecDepth 100000 in
set_option maxHeartbeats 4000000 in
theorem wX5_isOnPath {CX5_sideOf : zK} (HX5_sideOf : iX5_sideOf CX5_sideOf) {CX5_isIn : zK} (HX5_isIn : iX5_isIn CX5_isIn) {yn : Int32} {ycap : Nat → Int32} {ych : Int32} {ycf : Nat → Int32} {yct : Nat → Int32} {ycw : Nat → Int32} {yfl : Int32} {ysd : Int32} {ypa : Nat → Int32} {yla : Nat → Int32} {ybw : Nat → Int32} {ywo : Nat → Int32} {yns : Int32} {ynw : Int32} {n : Nat} {p : Nat → Nat} {k : Nat} {s : Nat} {t : Nat} {a : Int32} {b : Int32} {c : Int32} {P : zP} (hn : nI n = yn) (hn2 : n ≤ 12) (hpa : ∀ j, j < n → ypa j = nI (p j)) (hT : tI n p) (ha : a = nI k) (hb : b = nI s) (hc : c = nI t) (hk : k < n) (hs : s < n) (ht : t < n) (hp : P (some (.inl (b2i (onp n p s t k)))) (MW yn ycap ych ycf yct ycw yfl ysd ypa yla ybw ywo yns ynw)) {Z : zH} (hZ : zcl (tX5_isOnPath, fX5, gX5, [(115, 1, 5, CX5_sideOf), (71, 2, 100, CX5_isIn)], [], 2) P Z) : Z ((MW yn ycap ych ycf yct ycw yfl ysd ypa yla ybw ywo yns ynw)) 0 [some (.inr (.inl 0)), some (.inl a), some (.inl b), some (.inl c), none] [] := by
  have p12n := p12 hn2
  have hlt := sd_lt n p k
  refine hZ [] 60 _ _ _ _ ?_
  refine HX5_sideOf hn hn2 hpa hT ha hk ?_
  refine And.intro (fun q => ?_) (fun q => ?_)
  · have h0 : k = 0 := (nI_eq (by omega) (by omega)).mp (show nI k = nI 0 by rw [← ha]; exact q)
    have e : onp n p s t k = false := by simp [onp, h0]
    rw [e] at hp
    exact And.intro (Or.inl rfl) hp
  · have h0 : 0 < k := by
      rcases Nat.eq_zero_or_pos k with z | z
      · exact absurd (by rw [ha, z]; rfl) q
      · exact z
    refine HX5_isIn rfl hb (by omega) (by omega) ?_
    refine HX5_isIn rfl hc (by omega) (by omega) ?_
    refine And.intro (fun q2 => ?_) (fun q2 => ?_)
    · have e : onp n p s t k = false := by simp [onp, sep, b2i_inj.mp q2]
      rw [e] at hp
      exact And.intro (Or.inl rfl) hp
    · have e : onp n p s t k = true := by
        have : (sd n p k).testBit s ≠ (sd n p k).testBit t := fun z => q2 (by rw [z])
        simp [onp, sep, h0, this]
      rw [e] at hp
      exact And.intro (Or.inr rfl) hp
theorem zX5_isOnPath (l : Launch) : zMet l yX5_isOnPath cX5_isOnPath 5 (some .boolean) rX5_isOnPath kX5_isOnPath := zMet_of (by decide) ⟨rfl, rfl⟩ (oX5_isOnPath l) (fun as0 st0 P h => by
  obtain ⟨yn, ycap, ych, ycf, yct, ycw, yfl, ysd, ypa, yla, ybw, ywo, yns, ynw, n, p, k, s, t, a, b, c, h0, h1, h2, h3, h4, h5, h6, h7, h8, h9, rfl, rfl, hz⟩ := h
  exact ⟨Nat.le_of_ble_eq_true rfl, fun Z hZ => wX5_isOnPath eX5_sideOf eX5_isIn h0 h1 h2 h3 h4 h5 h6 h7 h8 h9 hz hZ⟩)

theorem los_eq {n : Nat} {B K : Nat → Nat → Nat} (hB : ∀ i j, B i j = B j i) (hK : ∀ i j, K i j = K j i) : sm (fun u => sm (fun v => B u v - K u v) u) n = los n B K := by
  have key : ∀ m, sm (fun u => sm (fun v => B u v - K u v) u) m = sm (fun u => sm (fun v => lo B K u v) m) m := by
    intro m
    induction m with
    | zero => rfl
    | succ m ih =>
      have e1 : sm (fun u => sm (fun v => lo B K u v) (m + 1)) (m + 1) = sm (fun u => sm (fun v => lo B K u v) m) m + sm (fun u => lo B K u m) m + (sm (fun v => lo B K m v) m + lo B K m m) := by
        rw [sm, ← sm_add]; rfl
      have e2 : sm (fun v => lo B K m v) m = 0 := sm_zero (fun i hi => by simp [lo, show ¬ m < i by omega])
      have e3 : lo B K m m = 0 := by simp [lo]
      have e4 : sm (fun u => lo B K u m) m = sm (fun v => B m v - K m v) m := sm_congr (fun i hi => by simp [lo, hi, hB i m, hK i m])
      rw [e1, e2, e3, e4, sm, ih]
      omega
  exact key n
theorem sub_le0 {a b : Nat} (ha : a < 2 ^ 30) (hb : b < 2 ^ 30) : (nI a - nI b ≤ 0 ↔ a ≤ b) := by
  have e := pk_sub_toInt ha hb
  rw [Int32.le_iff_toInt_le, e, Int32.toInt_zero]
  omega
theorem sub_ge0 {a b : Nat} (ha : a < 2 ^ 30) (hb : b < 2 ^ 30) : (0 ≤ nI a - nI b ↔ b ≤ a) := by
  have e := pk_sub_toInt ha hb
  rw [Int32.le_iff_toInt_le, e, Int32.toInt_zero]
  omega
/-- lossOf() -/
def kX5_lossOf : zK := fun as0 st0 P => ∃ yn : Int32, ∃ ycap : Nat → Int32, ∃ ych : Int32, ∃ ycf : Nat → Int32, ∃ yct : Nat → Int32, ∃ ycw : Nat → Int32, ∃ yfl : Int32, ∃ ysd : Int32, ∃ ypa : Nat → Int32, ∃ yla : Nat → Int32, ∃ ybw : Nat → Int32, ∃ ywo : Nat → Int32, ∃ yns : Int32, ∃ ynw : Int32, ∃ n : Nat, ∃ K : Nat → Nat → Nat, ∃ B : Nat → Nat → Nat, (mG yn ycap n K) ∧ (mT n ysd ypa yla ybw (some B)) ∧ as0 = [.inr (.inl 0)] ∧ st0 = (MW yn ycap ych ycf yct ycw yfl ysd ypa yla ybw ywo yns ynw) ∧ (P (some (.inl (nI (los n B K)))) (MW yn ycap ych ycf yct ycw yfl ysd ypa yla ybw ywo yns ynw))
def iX5_lossOf (C0 : zK) : Prop := ∀ {yn : Int32} {ycap : Nat → Int32} {ych : Int32} {ycf : Nat → Int32} {yct : Nat → Int32} {ycw : Nat → Int32} {yfl : Int32} {ysd : Int32} {ypa : Nat → Int32} {yla : Nat → Int32} {ybw : Nat → Int32} {ywo : Nat → Int32} {yns : Int32} {ynw : Int32} {n : Nat} {K : Nat → Nat → Nat} {B : Nat → Nat → Nat} {P : zP}, (mG yn ycap n K) → (mT n ysd ypa yla ybw (some B)) → (P (some (.inl (nI (los n B K)))) (MW yn ycap ych ycf yct ycw yfl ysd ypa yla ybw ywo yns ynw)) → C0 [.inr (.inl 0)] ((MW yn ycap ych ycf yct ycw yfl ysd ypa yla ybw ywo yns ynw)) P
theorem eX5_lossOf : iX5_lossOf kX5_lossOf := by
  intro yn ycap ych ycf yct ycw yfl ysd ypa yla ybw ywo yns ynw n K B P h0 h1 hz
  exact ⟨yn, ycap, ych, ycf, yct, ycw, yfl, ysd, ypa, yla, ybw, ywo, yns, ynw, n, K, B, h0, h1, rfl, rfl, hz⟩
theorem oX5_lossOf (l : Launch) : zOK l RX5 cX5_lossOf rX5_lossOf (some .int) (tX5_lossOf, fX5, gX5, [], [], 1) := ⟨tX5_lossOf_ok, fX5_ok, gX5_ok, fun _ h => absurd h List.not_mem_nil, by decide +kernel, rfl⟩
set_option maxRecDepth 100000 in
set_option maxHeartbeats 4000000 in
theorem wX5_lossOf {yn : Int32} {ycap : Nat → Int32} {ych : Int32} {ycf : Nat → Int32} {yct : Nat → Int32} {ycw : Nat → Int32} {yfl : Int32} {ysd : Int32} {ypa : Nat → Int32} {yla : Nat → Int32} {ybw : Nat → Int32} {ywo : Nat → Int32} {yns : Int32} {ynw : Int32} {n : Nat} {K : Nat → Nat → Nat} {B : Nat → Nat → Nat} {P : zP} (hG : mG yn ycap n K) (hT : mT n ysd ypa yla ybw (some B)) (hp : P (some (.inl (nI (los n B K)))) (MW yn ycap ych ycf yct ycw yfl ysd ypa yla ybw ywo yns ynw)) {Z : zH} (hZ : zcl (tX5_lossOf, fX5, gX5, [], [], 1) P Z) : Z ((MW yn ycap ych ycf yct ycw yfl ysd ypa yla ybw ywo yns ynw)) 0 [some (.inr (.inl 0)), none, none, none, none] [] := by
  obtain ⟨rfl, hn1, hn2, hcap, hK⟩ := hG
  obtain ⟨-, hB, hbw, -, -⟩ := mT_some hT
  rw [← los_eq hB.2.1 hK.2.1] at hp
  have outer : ∀ u, u ≤ n → ∀ o o4, Z (MW (nI n) ycap ych ycf yct ycw yfl ysd ypa yla ybw ywo yns ynw) 4 [some (.inr (.inl 0)), some (.inl (nI (sm (fun u => sm (fun v => B u v - K u v) u) u))), some (.inl (nI u)), o, o4] [] := by
    refine dn (Q := fun u => ∀ o o4, Z (MW (nI n) ycap ych ycf yct ycw yfl ysd ypa yla ybw ywo yns ynw) 4 [some (.inr (.inl 0)), some (.inl (nI (sm (fun u => sm (fun v => B u v - K u v) u) u))), some (.inl (nI u)), o, o4] []) ?_ ?_
    · intro o o4
      refine hZ [] 40 _ _ _ _ ?_
      exact pk_le n n (fun _ => hp) (fun c => absurd c (by omega))
    · intro u hu ih o o4
      have inner : ∀ v, v ≤ u → ∀ o4, Z (MW (nI n) ycap ych ycf yct ycw yfl ysd ypa yla ybw ywo yns ynw) 14 [some (.inr (.inl 0)), some (.inl (nI (sm (fun u => sm (fun v => B u v - K u v) u) u + sm (fun v => B u v - K u v) v))), some (.inl (nI u)), some (.inl (nI v)), o4] [] := by
        refine dn (Q := fun v => ∀ o4, Z (MW (nI n) ycap ych ycf yct ycw yfl ysd ypa yla ybw ywo yns ynw) 14 [some (.inr (.inl 0)), some (.inl (nI (sm (fun u => sm (fun v => B u v - K u v) u) u + sm (fun v => B u v - K u v) v))), some (.inl (nI u)), some (.inl (nI v)), o4] []) ?_ ?_
        · intro o4
          refine hZ [4] 40 _ _ _ _ ?_
          refine pk_le u u (fun _ => ?_) (fun c => absurd c (by omega))
          have h9 := ih (some (.inl (nI u))) o4
          rw [nI_succ u] at h9
          exact h9
        · intro v hv ih2 o4
          refine hZ [14] 60 _ _ _ _ ?_
          refine pk_le u v (fun c => absurd c (by omega)) (fun _ => ?_)
          refine And.intro (by rw [ix12]; exact in144 (by omega)) ?_
          rw [ix12, cl144 (by omega), hbw u v (by omega) (by omega)]
          refine And.intro (by rw [ix12]; exact in144 (by omega)) ?_
          rw [ix12, cl144 (by omega), hcap u v (by omega) (by omega)]
          have hk := hK.1 u v
          have hb := hB.1 u v
          have h9 := ih2 (some (.inl (nI (B u v) - nI (K u v))))
          refine And.intro (fun c => ?_) (fun c => ?_)
          · have c := (sub_le0 (by omega) (by omega)).mp c
            rw [sm, show B u v - K u v = 0 by omega, ← Nat.add_assoc, ← nI_add, nI_succ v] at h9
            exact h9
          · have c : ¬ B u v ≤ K u v := fun q => c ((sub_le0 (by omega) (by omega)).mpr q)
            rw [sm, ← Nat.add_assoc, ← nI_add, ← pk_sub (by omega), nI_succ v] at h9
            exact h9
      refine hZ [14] 40 _ _ _ _ ?_
      refine pk_le n u (fun c => absurd c (by omega)) (fun _ => ?_)
      exact inner 0 (by omega) o4
  refine hZ [4] 40 _ _ _ _ ?_
  exact outer 0 (by omega) none none
theorem zX5_lossOf (l : Launch) : zMet l yX5_lossOf cX5_lossOf 5 (some .int) rX5_lossOf kX5_lossOf := zMet_of (by decide) ⟨rfl, rfl⟩ (oX5_lossOf l) (fun as0 st0 P h => by
  obtain ⟨yn, ycap, ych, ycf, yct, ycw, yfl, ysd, ypa, yla, ybw, ywo, yns, ynw, n, K, B, h0, h1, rfl, rfl, hz⟩ := h
  exact ⟨Nat.le_of_ble_eq_true rfl, fun Z hZ => wX5_lossOf h0 h1 hz hZ⟩)

/-- how the reference holds a least value that may be wanting -/
def lI (o : Option Nat) : Int32 := match o with
  | none => -1
  | some a => nI a
def gg (fl : Bool) (n : Nat) (p la : Nat → Nat) (K : Nat → Nat → Nat) (s t k : Nat) : Option Nat := cond fl (gl n p la s t k) (gw n p K s t k)
/-- leastOn(s, t, isLabel) -/
def kX5_leastOn : zK := fun as0 st0 P => ∃ yn : Int32, ∃ ycap : Nat → Int32, ∃ ych : Int32, ∃ ycf : Nat → Int32, ∃ yct : Nat → Int32, ∃ ycw : Nat → Int32, ∃ yfl : Int32, ∃ ysd : Int32, ∃ ypa : Nat → Int32, ∃ yla : Nat → Int32, ∃ ybw : Nat → Int32, ∃ ywo : Nat → Int32, ∃ yns : Int32, ∃ ynw : Int32, ∃ n : Nat, ∃ K : Nat → Nat → Nat, ∃ B : Nat → Nat → Nat, ∃ s : Nat, ∃ t : Nat, ∃ a : Int32, ∃ b : Int32, ∃ fl : Bool, (mG yn ycap n K) ∧ (mT n ysd ypa yla ybw (some B)) ∧ (a = nI s) ∧ (b = nI t) ∧ (s < n) ∧ (t < n) ∧ (s ≠ t) ∧ as0 = [.inr (.inl 0), .inl a, .inl b, .inl (b2i fl)] ∧ st0 = (MW yn ycap ych ycf yct ycw yfl ysd ypa yla ybw ywo yns ynw) ∧ (P (some (.inl (nI (cond fl (lm n (tp n B) (tl n B) s t) (lw n (tp n B) K s t))))) (MW yn ycap ych ycf yct ycw yfl ysd ypa yla ybw ywo yns ynw))
def iX5_leastOn (C0 : zK) : Prop := ∀ {yn : Int32} {ycap : Nat → Int32} {ych : Int32} {ycf : Nat → Int32} {yct : Nat → Int32} {ycw : Nat → Int32} {yfl : Int32} {ysd : Int32} {ypa : Nat → Int32} {yla : Nat → Int32} {ybw : Nat → Int32} {ywo : Nat → Int32} {yns : Int32} {ynw : Int32} {n : Nat} {K : Nat → Nat → Nat} {B : Nat → Nat → Nat} {s : Nat} {t : Nat} {a : Int32} {b : Int32} {fl : Bool} {P : zP}, (mG yn ycap n K) → (mT n ysd ypa yla ybw (some B)) → (a = nI s) → (b = nI t) → (s < n) → (t < n) → (s ≠ t) → (P (some (.inl (nI (cond fl (lm n (tp n B) (tl n B) s t) (lw n (tp n B) K s t))))) (MW yn ycap ych ycf yct ycw yfl ysd ypa yla ybw ywo yns ynw)) → C0 [.inr (.inl 0), .inl a, .inl b, .inl (b2i fl)] ((MW yn ycap ych ycf yct ycw yfl ysd ypa yla ybw ywo yns ynw)) P
theorem eX5_leastOn : iX5_leastOn kX5_leastOn := by
  intro yn ycap ych ycf yct ycw yfl ysd ypa yla ybw ywo yns ynw n K B s t a b fl P h0 h1 h2 h3 h4 h5 h6 hz
  exact ⟨yn, ycap, ych, ycf, yct, ycw, yfl, ysd, ypa, yla, ybw, ywo, yns, ynw, n, K, B, s, t, a, b, fl, h0, h1, h2, h3, h4, h5, h6, rfl, rfl, hz⟩
theorem oX5_leastOn (l : Launch) : zOK l RX5 cX5_leastOn rX5_leastOn (some .int) (tX5_leastOn, fX5, gX5, [(121, 3, 5, kX5_isOnPath), (115, 1, 5, kX5_sideOf), (81, 1, 5, kX5_weigh)], [], 1) := ⟨tX5_leastOn_ok, fX5_ok, gX5_ok, List.forall_mem_cons.mpr ⟨⟨yX5_isOnPath, cX5_isOnPath, 5, (some .boolean), rX5_isOnPath, zX5_isOnPath l, by decide +kernel, ykX5_isOnPath, lkX5_121⟩, List.forall_mem_cons.mpr ⟨⟨yX5_sideOf, cX5_sideOf, 5, (some .int), rX5_sideOf, zX5_sideOf l, by decide +kernel, ykX5_sideOf, lkX5_115⟩, List.forall_mem_cons.mpr ⟨⟨yX5_weigh, cX5_weigh, 5, (some .int), rX5_weigh, zX5_weigh l, by decide +kernel, ykX5_weigh, lkX5_81⟩, fun _ h => absurd h List.not_mem_nil⟩⟩⟩, by decide +kernel, rfl⟩
set_option maxRecDepth 100000 in
set_option maxHeartbeats 4000000 in
theorem wX5_leastOn {CX5_isOnPath : zK} (HX5_isOnPath : iX5_isOnPath CX5_isOnPath) {CX5_sideOf : zK} (HX5_sideOf : iX5_sideOf CX5_sideOf) {CX5_weigh : zK} (HX5_weigh : iX5_weigh CX5_weigh) {yn : Int32} {ycap : Nat → Int32} {ych : Int32} {ycf : Nat → Int32} {yct : Nat → Int32} {ycw : Nat → Int32} {yfl : Int32} {ysd : Int32} {ypa : Nat → Int32} {yla : Nat → Int32} {ybw : Nat → Int32} {ywo : Nat → Int32} {yns : Int32} {ynw : Int32} {n : Nat} {K : Nat → Nat → Nat} {B : Nat → Nat → Nat} {s : Nat} {t : Nat} {a : Int32} {b : Int32} {fl : Bool} {P : zP} (hG : mG yn ycap n K) (hT : mT n ysd ypa yla ybw (some B)) (ha : a = nI s) (hb : b = nI t) (hs : s < n) (ht : t < n) (hst : s ≠ t) (hp : P (some (.inl (nI (cond fl (lm n (tp n B) (tl n B) s t) (lw n (tp n B) K s t))))) (MW yn ycap ych ycf yct ycw yfl ysd ypa yla ybw ywo yns ynw)) {Z : zH} (hZ : zcl (tX5_leastOn, fX5, gX5, [(121, 3, 5, CX5_isOnPath), (115, 1, 5, CX5_sideOf), (81, 1, 5, CX5_weigh)], [], 1) P Z) : Z ((MW yn ycap ych ycf yct ycw yfl ysd ypa yla ybw ywo yns ynw)) 0 [some (.inr (.inl 0)), some (.inl a), some (.inl b), some (.inl (b2i fl)), none, none, none] [] := by
  subst ha hb
  have hG0 := hG
  obtain ⟨rfl, hn1, hn2, hcap, hK⟩ := hG
  obtain ⟨-, hB, -, hpa, hla⟩ := mT_some hT
  have p12n := p12 hn2
  have hTI := tp_tI B (by omega : 0 < n)
  have bnd : ∀ m w, lst (gg fl n (tp n B) (tl n B) K s t) m = some w → w ≤ 143856 := lst_bound (fun i v hv => by
    cases fl with
    | true =>
      have hv : gl n (tp n B) (tl n B) s t i = some v := hv
      unfold gl at hv
      split at hv
      · cases hv; exact tl_le hB.1 hn2 i
      · cases hv
    | false =>
      have hv : gw n (tp n B) K s t i = some v := hv
      unfold gw at hv
      split at hv
      · cases hv; exact wt_bound hK.1 hn2 _
      · cases hv)
  have fin : P (some (.inl (lI (lst (gg fl n (tp n B) (tl n B) K s t) n)))) (MW (nI n) ycap ych ycf yct ycw yfl ysd ypa yla ybw ywo yns ynw) := by
    cases fl with
    | true =>
      have e : lst (gg true n (tp n B) (tl n B) K s t) n = some (lm n (tp n B) (tl n B) s t) := lm_spec (tl n B) hTI hs ht hst
      rw [e]; exact hp
    | false =>
      have e : lst (gg false n (tp n B) (tl n B) K s t) n = some (lw n (tp n B) K s t) := lw_spec K hTI hs ht hst
      rw [e]; exact hp
  have loop : ∀ m, m ≤ n → 0 < m → ∀ o6, Z (MW (nI n) ycap ych ycf yct ycw yfl ysd ypa yla ybw ywo yns ynw) 6 [some (.inr (.inl 0)), some (.inl (nI s)), some (.inl (nI t)), some (.inl (b2i fl)), some (.inl (lI (lst (gg fl n (tp n B) (tl n B) K s t) m))), some (.inl (nI m)), o6] [] := by
    refine dn (Q := fun m => 0 < m → ∀ o6, Z (MW (nI n) ycap ych ycf yct ycw yfl ysd ypa yla ybw ywo yns ynw) 6 [some (.inr (.inl 0)), some (.inl (nI s)), some (.inl (nI t)), some (.inl (b2i fl)), some (.inl (lI (lst (gg fl n (tp n B) (tl n B) K s t) m))), some (.inl (nI m)), o6] []) ?_ ?_
    · intro _ o6
      refine hZ [] 40 _ _ _ _ ?_
      exact pk_le n n (fun _ => fin) (fun c => absurd c (by omega))
    · intro m hm ih hm0 o6
      have hlt := sd_lt n (tp n B) m
      have hlm := tl_le hB.1 hn2 m
      have hwm := wt_bound hK.1 hn2 (sd n (tp n B) m)
      -- its value i comes to be looked at
      have look : ∀ i, i ≤ 143856 → gg fl n (tp n B) (tl n B) K s t m = some i → Z (MW (nI n) ycap ych ycf yct ycw yfl ysd ypa yla ybw ywo yns ynw) 50 [some (.inr (.inl 0)), some (.inl (nI s)), some (.inl (nI t)), some (.inl (b2i fl)), some (.inl (lI (lst (gg fl n (tp n B) (tl n B) K s t) m))), some (.inl (nI m)), o6] [.inl (nI i)] := by
        intro i hi hg
        have h9 := ih (by omega) (some (.inl (nI i)))
        rw [lst, hg, nI_succ m] at h9
        refine hZ [6] 40 _ _ _ _ ?_
        cases e : lst (gg fl n (tp n B) (tl n B) K s t) m with
        | none =>
          rw [e] at h9
          exact And.intro (fun _ => h9) (fun c => absurd (by decide) c)
        | some w =>
          rw [e] at h9
          have hw := bnd m w e
          refine And.intro (fun c => absurd c (nI_pos (by omega))) (fun _ => ?_)
          refine pk_le w i (fun c => ?_) (fun c => ?_)
          · rw [show omin (some w) (some i) = some w from congrArg some (if_neg (by omega))] at h9
            exact h9
          · rw [show omin (some w) (some i) = some i from congrArg some (if_pos c)] at h9
            exact h9
      refine hZ [50, 6] 60 _ _ _ _ ?_
      refine pk_le n m (fun c => absurd c (by omega)) (fun _ => ?_)
      refine HX5_isOnPath rfl hn2 hpa hTI rfl rfl rfl hm hs ht ?_
      refine bz (fun h => ?_) (fun h => ?_)
      · have h9 := ih (by omega) o6
        have hg : gg fl n (tp n B) (tl n B) K s t m = none := by cases fl <;> simp [gg, gl, gw, h]
        rw [lst, hg, nI_succ m] at h9
        have e2 : omin (lst (gg fl n (tp n B) (tl n B) K s t) m) none = lst (gg fl n (tp n B) (tl n B) K s t) m := by cases lst (gg fl n (tp n B) (tl n B) K s t) m <;> rfl
        rw [e2] at h9
        exact h9
      · refine bz (fun hf => ?_) (fun hf => ?_)
        · subst hf
          refine HX5_sideOf rfl hn2 hpa hTI rfl hm ?_
          refine HX5_weigh hG0 rfl (by omega) ?_
          exact look _ hwm (if_pos h)
        · subst hf
          refine And.intro (in12 (by omega)) ?_
          rw [cl12 (by omega), hla m hm0 hm]
          exact look _ hlm (if_pos h)
  refine hZ [6] 40 _ _ _ _ ?_
  have h0 := loop 1 (by omega) (by omega) none
  have e : gg fl n (tp n B) (tl n B) K s t 0 = none := by cases fl <;> simp [gg, gl, gw, onp]
  rw [lst, e] at h0
  exact h0
theorem zX5_leastOn (l : Launch) : zMet l yX5_leastOn cX5_leastOn 7 (some .int) rX5_leastOn kX5_leastOn := zMet_of (by decide) ⟨rfl, rfl⟩ (oX5_leastOn l) (fun as0 st0 P h => by
  obtain ⟨yn, ycap, ych, ycf, yct, ycw, yfl, ysd, ypa, yla, ybw, ywo, yns, ynw, n, K, B, s, t, a, b, fl, h0, h1, h2, h3, h4, h5, h6, rfl, rfl, hz⟩ := h
  exact ⟨Nat.le_of_ble_eq_true rfl, fun Z hZ => wX5_leastOn eX5_isOnPath eX5_sideOf eX5_weigh h0 h1 h2 h3 h4 h5 h6 hz hZ⟩)

/-- lowerOf(s, t) -/
def kX5_lowerOf : zK := fun as0 st0 P => ∃ yn : Int32, ∃ ycap : Nat → Int32, ∃ ych : Int32, ∃ ycf : Nat → Int32, ∃ yct : Nat → Int32, ∃ ycw : Nat → Int32, ∃ yfl : Int32, ∃ ysd : Int32, ∃ ypa : Nat → Int32, ∃ yla : Nat → Int32, ∃ ybw : Nat → Int32, ∃ ywo : Nat → Int32, ∃ yns : Int32, ∃ ynw : Int32, ∃ n : Nat, ∃ K : Nat → Nat → Nat, ∃ B : Nat → Nat → Nat, ∃ s : Nat, ∃ t : Nat, ∃ a : Int32, ∃ b : Int32, (mG yn ycap n K) ∧ (mT n ysd ypa yla ybw (some B)) ∧ (a = nI s) ∧ (b = nI t) ∧ (s < n) ∧ (t < n) ∧ (s ≠ t) ∧ as0 = [.inr (.inl 0), .inl a, .inl b] ∧ st0 = (MW yn ycap ych ycf yct ycw yfl ysd ypa yla ybw ywo yns ynw) ∧ (P (some (.inl (nI (lob n B K s t)))) (MW yn ycap ych ycf yct ycw yfl ysd ypa yla ybw ywo yns ynw))
def iX5_lowerOf (C0 : zK) : Prop := ∀ {yn : Int32} {ycap : Nat → Int32} {ych : Int32} {ycf : Nat → Int32} {yct : Nat → Int32} {ycw : Nat → Int32} {yfl : Int32} {ysd : Int32} {ypa : Nat → Int32} {yla : Nat → Int32} {ybw : Nat → Int32} {ywo : Nat → Int32} {yns : Int32} {ynw : Int32} {n : Nat} {K : Nat → Nat → Nat} {B : Nat → Nat → Nat} {s : Nat} {t : Nat} {a : Int32} {b : Int32} {P : zP}, (mG yn ycap n K) → (mT n ysd ypa yla ybw (some B)) → (a = nI s) → (b = nI t) → (s < n) → (t < n) → (s ≠ t) → (P (some (.inl (nI (lob n B K s t)))) (MW yn ycap ych ycf yct ycw yfl ysd ypa yla ybw ywo yns ynw)) → C0 [.inr (.inl 0), .inl a, .inl b] ((MW yn ycap ych ycf yct ycw yfl ysd ypa yla ybw ywo yns ynw)) P
theorem eX5_lowerOf : iX5_lowerOf kX5_lowerOf := by
  intro yn ycap ych ycf yct ycw yfl ysd ypa yla ybw ywo yns ynw n K B s t a b P h0 h1 h2 h3 h4 h5 h6 hz
  exact ⟨yn, ycap, ych, ycf, yct, ycw, yfl, ysd, ypa, yla, ybw, ywo, yns, ynw, n, K, B, s, t, a, b, h0, h1, h2, h3, h4, h5, h6, rfl, rfl, hz⟩
theorem oX5_lowerOf (l : Launch) : zOK l RX5 cX5_lowerOf rX5_lowerOf (some .int) (tX5_lowerOf, fX5, gX5, [(124, 3, 5, kX5_leastOn), (118, 0, 5, kX5_lossOf)], [], 1) := ⟨tX5_lowerOf_ok, fX5_ok, gX5_ok, List.forall_mem_cons.mpr ⟨⟨yX5_leastOn, cX5_leastOn, 7, (some .int), rX5_leastOn, zX5_leastOn l, by decide +kernel, ykX5_leastOn, lkX5_124⟩, List.forall_mem_cons.mpr ⟨⟨yX5_lossOf, cX5_lossOf, 5, (some .int), rX5_lossOf, zX5_lossOf l, by decide +kernel, ykX5_lossOf, lkX5_118⟩, fun _ h => absurd h List.not_mem_nil⟩⟩, by decide +kernel, rfl⟩
set_option maxRecDepth 100000 in
set_option maxHeartbeats 4000000 in
theorem wX5_lowerOf {CX5_leastOn : zK} (HX5_leastOn : iX5_leastOn CX5_leastOn) {CX5_lossOf : zK} (HX5_lossOf : iX5_lossOf CX5_lossOf) {yn : Int32} {ycap : Nat → Int32} {ych : Int32} {ycf : Nat → Int32} {yct : Nat → Int32} {ycw : Nat → Int32} {yfl : Int32} {ysd : Int32} {ypa : Nat → Int32} {yla : Nat → Int32} {ybw : Nat → Int32} {ywo : Nat → Int32} {yns : Int32} {ynw : Int32} {n : Nat} {K : Nat → Nat → Nat} {B : Nat → Nat → Nat} {s : Nat} {t : Nat} {a : Int32} {b : Int32} {P : zP} (hG : mG yn ycap n K) (hT : mT n ysd ypa yla ybw (some B)) (ha : a = nI s) (hb : b = nI t) (hs : s < n) (ht : t < n) (hst : s ≠ t) (hp : P (some (.inl (nI (lob n B K s t)))) (MW yn ycap ych ycf yct ycw yfl ysd ypa yla ybw ywo yns ynw)) {Z : zH} (hZ : zcl (tX5_lowerOf, fX5, gX5, [(124, 3, 5, CX5_leastOn), (118, 0, 5, CX5_lossOf)], [], 1) P Z) : Z ((MW yn ycap ych ycf yct ycw yfl ysd ypa yla ybw ywo yns ynw)) 0 [some (.inr (.inl 0)), some (.inl a), some (.inl b), none] [] := by
  have hn2 := hG.2.2.1
  obtain ⟨-, hB, -, -, -⟩ := mT_some hT
  have h1 := lm_le (n := n) (p := tp n B) (tl_le hB.1 hn2) s t
  have h2 := los_le (K := K) hB.1 hn2
  refine hZ [] 40 _ _ _ _ ?_
  refine HX5_leastOn (fl := true) hG hT ha hb hs ht hst ?_
  refine HX5_lossOf hG hT ?_
  refine And.intro (fun c => ?_) (fun c => ?_)
  · have c := (sub_ge0 (a := lm n (tp n B) (tl n B) s t) (b := los n B K) (by omega) (by omega)).mp c
    rw [lob, ← pk_sub c] at hp
    exact hp
  · have c : ¬ los n B K ≤ lm n (tp n B) (tl n B) s t := fun q => c ((sub_ge0 (a := lm n (tp n B) (tl n B) s t) (b := los n B K) (by omega) (by omega)).mpr q)
    rw [lob, show lm n (tp n B) (tl n B) s t - los n B K = 0 by omega] at hp
    exact hp
theorem zX5_lowerOf (l : Launch) : zMet l yX5_lowerOf cX5_lowerOf 4 (some .int) rX5_lowerOf kX5_lowerOf := zMet_of (by decide) ⟨rfl, rfl⟩ (oX5_lowerOf l) (fun as0 st0 P h => by
  obtain ⟨yn, ycap, ych, ycf, yct, ycw, yfl, ysd, ypa, yla, ybw, ywo, yns, ynw, n, K, B, s, t, a, b, h0, h1, h2, h3, h4, h5, h6, rfl, rfl, hz⟩ := h
  exact ⟨Nat.le_of_ble_eq_true rfl, fun Z hZ => wX5_lowerOf eX5_leastOn eX5_lossOf h0 h1 h2 h3 h4 h5 h6 hz hZ⟩)

theorem pe_neg {n : Nat} {a b : Int32} (h : pe n a b ≠ 0) : ¬ 0 ≤ pe n a b := by
  unfold pe at h ⊢
  split
  · split
    · decide
    · rename_i h1 h2
      rw [if_pos h1, if_neg h2] at h
      exact absurd rfl h
  · decide
/-- nodeBarred(k) -/
def kX5_nodeBarred : zK := fun as0 st0 P => ∃ yn : Int32, ∃ ycap : Nat → Int32, ∃ ych : Int32, ∃ ycf : Nat → Int32, ∃ yct : Nat → Int32, ∃ ycw : Nat → Int32, ∃ yfl : Int32, ∃ ysd : Int32, ∃ ypa : Nat → Int32, ∃ yla : Nat → Int32, ∃ ybw : Nat → Int32, ∃ ywo : Nat → Int32, ∃ yns : Int32, ∃ ynw : Int32, ∃ n : Nat, ∃ k : Int32, ∃ ob : Option (Nat → Nat → Nat), (nI n = yn) ∧ (2 ≤ n) ∧ (n ≤ 12) ∧ (mT n ysd ypa yla ybw ob) ∧ as0 = [.inr (.inl 0), .inl k] ∧ st0 = (MW yn ycap ych ycf yct ycw yfl ysd ypa yla ybw ywo yns ynw) ∧ ((okN n k = false → P (some (.inl (-1))) (MW yn ycap ych ycf yct ycw yfl ysd ypa yla ybw ywo yns ynw)) ∧ (okN n k = true → (ob = none → P (some (.inl (-4))) (MW yn ycap ych ycf yct ycw yfl ysd ypa yla ybw ywo yns ynw)) ∧ (∀ B, ob = some B → P (some (.inl 0)) (MW yn ycap ych ycf yct ycw yfl ysd ypa yla ybw ywo yns ynw))))
def iX5_nodeBarred (C0 : zK) : Prop := ∀ {yn : Int32} {ycap : Nat → Int32} {ych : Int32} {ycf : Nat → Int32} {yct : Nat → Int32} {ycw : Nat → Int32} {yfl : Int32} {ysd : Int32} {ypa : Nat → Int32} {yla : Nat → Int32} {ybw : Nat → Int32} {ywo : Nat → Int32} {yns : Int32} {ynw : Int32} {n : Nat} {k : Int32} {ob : Option (Nat → Nat → Nat)} {P : zP}, (nI n = yn) → (2 ≤ n) → (n ≤ 12) → (mT n ysd ypa yla ybw ob) → ((okN n k = false → P (some (.inl (-1))) (MW yn ycap ych ycf yct ycw yfl ysd ypa yla ybw ywo yns ynw)) ∧ (okN n k = true → (ob = none → P (some (.inl (-4))) (MW yn ycap ych ycf yct ycw yfl ysd ypa yla ybw ywo yns ynw)) ∧ (∀ B, ob = some B → P (some (.inl 0)) (MW yn ycap ych ycf yct ycw yfl ysd ypa yla ybw ywo yns ynw)))) → C0 [.inr (.inl 0), .inl k] ((MW yn ycap ych ycf yct ycw yfl ysd ypa yla ybw ywo yns ynw)) P
theorem eX5_nodeBarred : iX5_nodeBarred kX5_nodeBarred := by
  intro yn ycap ych ycf yct ycw yfl ysd ypa yla ybw ywo yns ynw n k ob P h0 h1 h2 h3 hz
  exact ⟨yn, ycap, ych, ycf, yct, ycw, yfl, ysd, ypa, yla, ybw, ywo, yns, ynw, n, k, ob, h0, h1, h2, h3, rfl, rfl, hz⟩
theorem oX5_nodeBarred (l : Launch) : zOK l RX5 cX5_nodeBarred rX5_nodeBarred (some .int) (tX5_nodeBarred, fX5, gX5, [(42, 1, 5, kX5_noNode)], [], 1) := ⟨tX5_nodeBarred_ok, fX5_ok, gX5_ok, List.forall_mem_cons.mpr ⟨⟨yX5_noNode, cX5_noNode, 2, (some .boolean), rX5_noNode, zX5_noNode l, by decide +kernel, ykX5_noNode, lkX5_42⟩, fun _ h => absurd h List.not_mem_nil⟩, by decide +kernel, rfl⟩
set_option maxRecDepth 100000 in
set_option maxHeartbeats 4000000 in
theorem wX5_nodeBarred {CX5_noNode : zK} (HX5_noNode : iX5_noNode CX5_noNode) {yn : Int32} {ycap : Nat → Int32} {ych : Int32} {ycf : Nat → Int32} {yct : Nat → Int32} {ycw : Nat → Int32} {yfl : Int32} {ysd : Int32} {ypa : Nat → Int32} {yla : Nat → Int32} {ybw : Nat → Int32} {ywo : Nat → Int32} {yns : Int32} {ynw : Int32} {n : Nat} {k : Int32} {ob : Option (Nat → Nat → Nat)} {P : zP} (hn : nI n = yn) (hn1 : 2 ≤ n) (hn2 : n ≤ 12) (hT : mT n ysd ypa yla ybw ob) (hp : (okN n k = false → P (some (.inl (-1))) (MW yn ycap ych ycf yct ycw yfl ysd ypa yla ybw ywo yns ynw)) ∧ (okN n k = true → (ob = none → P (some (.inl (-4))) (MW yn ycap ych ycf yct ycw yfl ysd ypa yla ybw ywo yns ynw)) ∧ (∀ B, ob = some B → P (some (.inl 0)) (MW yn ycap ych ycf yct ycw yfl ysd ypa yla ybw ywo yns ynw)))) {Z : zH} (hZ : zcl (tX5_nodeBarred, fX5, gX5, [(42, 1, 5, CX5_noNode)], [], 1) P Z) : Z ((MW yn ycap ych ycf yct ycw yfl ysd ypa yla ybw ywo yns ynw)) 0 [some (.inr (.inl 0)), some (.inl k)] [] := by
  refine hZ [] 40 _ _ _ _ ?_
  refine HX5_noNode hn hn1 hn2 ?_
  refine bz (fun h => ?_) (fun h => ?_)
  · have h9 := hp.2 (by simpa using h)
    rcases mT_0 hT with ⟨e, e2⟩ | ⟨e, B, e2⟩
    · exact And.intro (fun _ => h9.1 e2) (fun c => absurd e c)
    · exact And.intro (fun c => absurd c (by rw [e]; decide)) (fun _ => h9.2 B e2)
  · exact hp.1 (by simpa using h)
theorem zX5_nodeBarred (l : Launch) : zMet l yX5_nodeBarred cX5_nodeBarred 2 (some .int) rX5_nodeBarred kX5_nodeBarred := zMet_of (by decide) ⟨rfl, rfl⟩ (oX5_nodeBarred l) (fun as0 st0 P h => by
  obtain ⟨yn, ycap, ych, ycf, yct, ycw, yfl, ysd, ypa, yla, ybw, ywo, yns, ynw, n, k, ob, h0, h1, h2, h3, rfl, rfl, hz⟩ := h
  exact ⟨Nat.le_of_ble_eq_true rfl, fun Z hZ => wX5_nodeBarred eX5_noNode h0 h1 h2 h3 hz hZ⟩)

/-- pathBarred(s, t) -/
def kX5_pathBarred : zK := fun as0 st0 P => ∃ yn : Int32, ∃ ycap : Nat → Int32, ∃ ych : Int32, ∃ ycf : Nat → Int32, ∃ yct : Nat → Int32, ∃ ycw : Nat → Int32, ∃ yfl : Int32, ∃ ysd : Int32, ∃ ypa : Nat → Int32, ∃ yla : Nat → Int32, ∃ ybw : Nat → Int32, ∃ ywo : Nat → Int32, ∃ yns : Int32, ∃ ynw : Int32, ∃ n : Nat, ∃ a : Int32, ∃ b : Int32, ∃ ob : Option (Nat → Nat → Nat), (nI n = yn) ∧ (2 ≤ n) ∧ (n ≤ 12) ∧ (mT n ysd ypa yla ybw ob) ∧ as0 = [.inr (.inl 0), .inl a, .inl b] ∧ st0 = (MW yn ycap ych ycf yct ycw yfl ysd ypa yla ybw ywo yns ynw) ∧ ((pe n a b ≠ 0 → P (some (.inl (pe n a b))) (MW yn ycap ych ycf yct ycw yfl ysd ypa yla ybw ywo yns ynw)) ∧ (pe n a b = 0 → (ob = none → P (some (.inl (-4))) (MW yn ycap ych ycf yct ycw yfl ysd ypa yla ybw ywo yns ynw)) ∧ (∀ B, ob = some B → P (some (.inl 0)) (MW yn ycap ych ycf yct ycw yfl ysd ypa yla ybw ywo yns ynw))))
def iX5_pathBarred (C0 : zK) : Prop := ∀ {yn : Int32} {ycap : Nat → Int32} {ych : Int32} {ycf : Nat → Int32} {yct : Nat → Int32} {ycw : Nat → Int32} {yfl : Int32} {ysd : Int32} {ypa : Nat → Int32} {yla : Nat → Int32} {ybw : Nat → Int32} {ywo : Nat → Int32} {yns : Int32} {ynw : Int32} {n : Nat} {a : Int32} {b : Int32} {ob : Option (Nat → Nat → Nat)} {P : zP}, (nI n = yn) → (2 ≤ n) → (n ≤ 12) → (mT n ysd ypa yla ybw ob) → ((pe n a b ≠ 0 → P (some (.inl (pe n a b))) (MW yn ycap ych ycf yct ycw yfl ysd ypa yla ybw ywo yns ynw)) ∧ (pe n a b = 0 → (ob = none → P (some (.inl (-4))) (MW yn ycap ych ycf yct ycw yfl ysd ypa yla ybw ywo yns ynw)) ∧ (∀ B, ob = some B → P (some (.inl 0)) (MW yn ycap ych ycf yct ycw yfl ysd ypa yla ybw ywo yns ynw)))) → C0 [.inr (.inl 0), .inl a, .inl b] ((MW yn ycap ych ycf yct ycw yfl ysd ypa yla ybw ywo yns ynw)) P
theorem eX5_pathBarred : iX5_pathBarred kX5_pathBarred := by
  intro yn ycap ych ycf yct ycw yfl ysd ypa yla ybw ywo yns ynw n a b ob P h0 h1 h2 h3 hz
  exact ⟨yn, ycap, ych, ycf, yct, ycw, yfl, ysd, ypa, yla, ybw, ywo, yns, ynw, n, a, b, ob, h0, h1, h2, h3, rfl, rfl, hz⟩
theorem oX5_pathBarred (l : Launch) : zOK l RX5 cX5_pathBarred rX5_pathBarred (some .int) (tX5_pathBarred, fX5, gX5, [(56, 2, 5, kX5_twoBarred)], [], 1) := ⟨tX5_pathBarred_ok, fX5_ok, gX5_ok, List.forall_mem_cons.mpr ⟨⟨yX5_twoBarred, cX5_twoBarred, 3, (some .int), rX5_twoBarred, zX5_twoBarred l, by decide +kernel, ykX5_twoBarred, lkX5_56⟩, fun _ h => absurd h List.not_mem_nil⟩, by decide +kernel, rfl⟩
set_option maxRecDepth 100000 in
set_option maxHeartbeats 4000000 in
theorem wX5_pathBarred {CX5_twoBarred : zK} (HX5_twoBarred : iX5_twoBarred CX5_twoBarred) {yn : Int32} {ycap : Nat → Int32} {ych : Int32} {ycf : Nat → Int32} {yct : Nat → Int32} {ycw : Nat → Int32} {yfl : Int32} {ysd : Int32} {ypa : Nat → Int32} {yla : Nat → Int32} {ybw : Nat → Int32} {ywo : Nat → Int32} {yns : Int32} {ynw : Int32} {n : Nat} {a : Int32} {b : Int32} {ob : Option (Nat → Nat → Nat)} {P : zP} (hn : nI n = yn) (hn1 : 2 ≤ n) (hn2 : n ≤ 12) (hT : mT n ysd ypa yla ybw ob) (hp : (pe n a b ≠ 0 → P (some (.inl (pe n a b))) (MW yn ycap ych ycf yct ycw yfl ysd ypa yla ybw ywo yns ynw)) ∧ (pe n a b = 0 → (ob = none → P (some (.inl (-4))) (MW yn ycap ych ycf yct ycw yfl ysd ypa yla ybw ywo yns ynw)) ∧ (∀ B, ob = some B → P (some (.inl 0)) (MW yn ycap ych ycf yct ycw yfl ysd ypa yla ybw ywo yns ynw)))) {Z : zH} (hZ : zcl (tX5_pathBarred, fX5, gX5, [(56, 2, 5, CX5_twoBarred)], [], 1) P Z) : Z ((MW yn ycap ych ycf yct ycw yfl ysd ypa yla ybw ywo yns ynw)) 0 [some (.inr (.inl 0)), some (.inl a), some (.inl b), none] [] := by
  refine hZ [] 40 _ _ _ _ ?_
  refine HX5_twoBarred hn hn1 hn2 ?_
  refine And.intro (fun c => ?_) (fun c => ?_)
  · have h : pe n a b = 0 := by
      by_cases q : pe n a b = 0
      · exact q
      · exact absurd c (pe_neg q)
    have h9 := hp.2 h
    rcases mT_0 hT with ⟨e, e2⟩ | ⟨e, B, e2⟩
    · exact And.intro (fun _ => h9.1 e2) (fun c => absurd e c)
    · exact And.intro (fun c => absurd c (by rw [e]; decide)) (fun _ => h9.2 B e2)
  · have h : pe n a b ≠ 0 := fun q => c (by rw [q]; decide)
    exact hp.1 h
theorem zX5_pathBarred (l : Launch) : zMet l yX5_pathBarred cX5_pathBarred 4 (some .int) rX5_pathBarred kX5_pathBarred := zMet_of (by decide) ⟨rfl, rfl⟩ (oX5_pathBarred l) (fun as0 st0 P h => by
  obtain ⟨yn, ycap, ych, ycf, yct, ycw, yfl, ysd, ypa, yla, ybw, ywo, yns, ynw, n, a, b, ob, h0, h1, h2, h3, rfl, rfl, hz⟩ := h
  exact ⟨Nat.le_of_ble_eq_true rfl, fun Z hZ => wX5_pathBarred eX5_twoBarred h0 h1 h2 h3 hz hZ⟩)

/-- decide(s, t) -/
def kX5_decide : zK := fun as0 st0 P => ∃ σ : zS, ∃ a : AS, ∃ s : Int32, ∃ t : Int32, ∃ i : Nat, ∃ j : Nat, (mSt a σ) ∧ (okP a.1 s t i j) ∧ as0 = [.inr (.inl 0), .inl s, .inl t] ∧ st0 = σ ∧ (∀ a' σ', rBM i j a a' → mSt a' σ' → P none σ')
def iX5_decide (C0 : zK) : Prop := ∀ {σ : zS} {a : AS} {s : Int32} {t : Int32} {i : Nat} {j : Nat} {P : zP}, (mSt a σ) → (okP a.1 s t i j) → (∀ a' σ', rBM i j a a' → mSt a' σ' → P none σ') → C0 [.inr (.inl 0), .inl s, .inl t] (σ) P
theorem eX5_decide : iX5_decide kX5_decide := by
  intro σ a s t i j P h0 h1 hz
  exact ⟨σ, a, s, t, i, j, h0, h1, rfl, rfl, hz⟩
theorem oX5_decide (l : Launch) : zOK l RX5 cX5_decide rX5_decide none (tX5_decide, fX5, gX5, [(131, 2, 5, kX5_lowerOf), (124, 3, 5, kX5_leastOn), (106, 0, 5, kX5_makeTree)], [], 0) := ⟨tX5_decide_ok, fX5_ok, gX5_ok, List.forall_mem_cons.mpr ⟨⟨yX5_lowerOf, cX5_lowerOf, 4, (some .int), rX5_lowerOf, zX5_lowerOf l, by decide +kernel, ykX5_lowerOf, lkX5_131⟩, List.forall_mem_cons.mpr ⟨⟨yX5_leastOn, cX5_leastOn, 7, (some .int), rX5_leastOn, zX5_leastOn l, by decide +kernel, ykX5_leastOn, lkX5_124⟩, List.forall_mem_cons.mpr ⟨⟨yX5_makeTree, cX5_makeTree, 2, none, rX5_makeTree, zX5_makeTree l, by decide +kernel, ykX5_makeTree, lkX5_106⟩, fun _ h => absurd h List.not_mem_nil⟩⟩⟩, by decide +kernel, rfl⟩
set_option maxRecDepth 100000 in
set_option maxHeartbeats 4000000 in
theorem wX5_decide {CX5_lowerOf : zK} (HX5_lowerOf : iX5_lowerOf CX5_lowerOf) {CX5_leastOn : zK} (HX5_leastOn : iX5_leastOn CX5_leastOn) {CX5_makeTree : zK} (HX5_makeTree : iX5_makeTree CX5_makeTree) {σ : zS} {a : AS} {s : Int32} {t : Int32} {i : Nat} {j : Nat} {P : zP} (hσ : mSt a σ) (hij : okP a.1 s t i j) (hp : ∀ a' σ', rBM i j a a' → mSt a' σ' → P none σ') {Z : zH} (hZ : zcl (tX5_decide, fX5, gX5, [(131, 2, 5, CX5_lowerOf), (124, 3, 5, CX5_leastOn), (106, 0, 5, CX5_makeTree)], [], 0) P Z) : Z (σ) 0 [some (.inr (.inl 0)), some (.inl s), some (.inl t)] [] := by
  have hσ0 := hσ
  obtain ⟨n, K, L, F, ob⟩ := a
  obtain ⟨yn, ycap, ych, ycf, yct, ycw, yfl, ysd, ypa, yla, ybw, ywo, yns, ynw, rfl, hG, hR, hF, hT⟩ := hσ
  obtain ⟨hi, hj, hne, hs, ht⟩ := hij
  dsimp only at hG hR hF hT hi hj
  refine hZ [] 60 _ _ _ _ ?_
  rcases mT_0 hT with ⟨e, e2⟩ | ⟨e, B, e2⟩
  · refine And.intro (fun _ => ?_) (fun c => absurd e c)
    refine HX5_makeTree hσ0 (fun σ' h' => ?_)
    exact hp _ _ (Or.inr ⟨fun q => (by obtain ⟨B, q, -⟩ := q; rw [e2] at q; cases q), rfl⟩) h'
  · refine And.intro (fun c => absurd c (by rw [e]; decide)) (fun _ => ?_)
    rw [e2] at hT
    obtain ⟨-, hB, -, -, -⟩ := mT_some hT
    have b1 := lm_le (n := n) (p := tp n B) (tl_le hB.1 hG.2.2.1) i j
    have b2 := lw_le (p := tp n B) hG.2.2.2.2.1 hG.2.2.1 i j
    refine HX5_lowerOf hG hT hs ht hi hj hne ?_
    refine HX5_leastOn (fl := false) hG hT hs ht hi hj hne ?_
    refine pk_eq (lob n B K i j) (lw n (tp n B) K i j) (fun c => ?_) (fun c => ?_) rfl rfl (by unfold lob; omega) (by omega)
    · exact hp _ _ (Or.inl ⟨⟨B, e2, c⟩, rfl⟩) hσ0
    · refine HX5_makeTree hσ0 (fun σ' h' => ?_)
      exact hp _ _ (Or.inr ⟨fun q => (by obtain ⟨B', q, q2⟩ := q; rw [e2] at q; cases q; exact c q2), rfl⟩) h'
theorem zX5_decide (l : Launch) : zMet l yX5_decide cX5_decide 3 none rX5_decide kX5_decide := zMet_of (by decide) ⟨rfl, rfl⟩ (oX5_decide l) (fun as0 st0 P h => by
  obtain ⟨σ, a, s, t, i, j, h0, h1, rfl, rfl, hz⟩ := h
  exact ⟨Nat.le_of_ble_eq_true rfl, fun Z hZ => wX5_decide eX5_lowerOf eX5_leastOn eX5_makeTree h0 h1 hz hZ⟩)

/-- classBy(u, l) -/
def kX5_classBy : zK := fun as0 st0 P => ∃ yn : Int32, ∃ ycap : Nat → Int32, ∃ ych : Int32, ∃ ycf : Nat → Int32, ∃ yct : Nat → Int32, ∃ ycw : Nat → Int32, ∃ yfl : Int32, ∃ ysd : Int32, ∃ ypa : Nat → Int32, ∃ yla : Nat → Int32, ∃ ybw : Nat → Int32, ∃ ywo : Nat → Int32, ∃ yns : Int32, ∃ ynw : Int32, ∃ n : Nat, ∃ K : Nat → Nat → Nat, ∃ B : Nat → Nat → Nat, ∃ u : Nat, ∃ l : Nat, ∃ a : Int32, ∃ b : Int32, (mG yn ycap n K) ∧ (mT n ysd ypa yla ybw (some B)) ∧ (a = nI u) ∧ (b = nI l) ∧ (u < n) ∧ (l < 2 ^ 31) ∧ as0 = [.inr (.inl 0), .inl a, .inl b] ∧ st0 = (MW yn ycap ych ycf yct ycw yfl ysd ypa yla ybw ywo yns ynw) ∧ (P (some (.inl (nI (cls0 n (tp n B) (tl n B) l u n)))) (MW yn ycap ych ycf yct ycw yfl ysd ypa yla ybw ywo yns ynw))
def iX5_classBy (C0 : zK) : Prop := ∀ {yn : Int32} {ycap : Nat → Int32} {ych : Int32} {ycf : Nat → Int32} {yct : Nat → Int32} {ycw : Nat → Int32} {yfl : Int32} {ysd : Int32} {ypa : Nat → Int32} {yla : Nat → Int32} {ybw : Nat → Int32} {ywo : Nat → Int32} {yns : Int32} {ynw : Int32} {n : Nat} {K : Nat → Nat → Nat} {B : Nat → Nat → Nat} {u : Nat} {l : Nat} {a : Int32} {b : Int32} {P : zP}, (mG yn ycap n K) → (mT n ysd ypa yla ybw (some B)) → (a = nI u) → (b = nI l) → (u < n) → (l < 2 ^ 31) → (P (some (.inl (nI (cls0 n (tp n B) (tl n B) l u n)))) (MW yn ycap ych ycf yct ycw yfl ysd ypa yla ybw ywo yns ynw)) → C0 [.inr (.inl 0), .inl a, .inl b] ((MW yn ycap ych ycf yct ycw yfl ysd ypa yla ybw ywo yns ynw)) P
theorem eX5_classBy : iX5_classBy kX5_classBy := by
  intro yn ycap ych ycf yct ycw yfl ysd ypa yla ybw ywo yns ynw n K B u l a b P h0 h1 h2 h3 h4 h5 hz
  exact ⟨yn, ycap, ych, ycf, yct, ycw, yfl, ysd, ypa, yla, ybw, ywo, yns, ynw, n, K, B, u, l, a, b, h0, h1, h2, h3, h4, h5, rfl, rfl, hz⟩
theorem oX5_classBy (l : Launch) : zOK l RX5 cX5_classBy rX5_classBy (some .int) (tX5_classBy, fX5, gX5, [(124, 3, 5, kX5_leastOn)], [], 1) := ⟨tX5_classBy_ok, fX5_ok, gX5_ok, List.forall_mem_cons.mpr ⟨⟨yX5_leastOn, cX5_leastOn, 7, (some .int), rX5_leastOn, zX5_leastOn l, by decide +kernel, ykX5_leastOn, lkX5_124⟩, fun _ h => absurd h List.not_mem_nil⟩, by decide +kernel, rfl⟩
set_option maxRecDepth 100000 in
set_option maxHeartbeats 4000000 in
theorem wX5_classBy {CX5_leastOn : zK} (HX5_leastOn : iX5_leastOn CX5_leastOn) {yn : Int32} {ycap : Nat → Int32} {ych : Int32} {ycf : Nat → Int32} {yct : Nat → Int32} {ycw : Nat → Int32} {yfl : Int32} {ysd : Int32} {ypa : Nat → Int32} {yla : Nat → Int32} {ybw : Nat → Int32} {ywo : Nat → Int32} {yns : Int32} {ynw : Int32} {n : Nat} {K : Nat → Nat → Nat} {B : Nat → Nat → Nat} {u : Nat} {l : Nat} {a : Int32} {b : Int32} {P : zP} (hG : mG yn ycap n K) (hT : mT n ysd ypa yla ybw (some B)) (ha : a = nI u) (hb : b = nI l) (hu : u < n) (hl : l < 2 ^ 31) (hp : P (some (.inl (nI (cls0 n (tp n B) (tl n B) l u n)))) (MW yn ycap ych ycf yct ycw yfl ysd ypa yla ybw ywo yns ynw)) {Z : zH} (hZ : zcl (tX5_classBy, fX5, gX5, [(124, 3, 5, CX5_leastOn)], [], 1) P Z) : Z ((MW yn ycap ych ycf yct ycw yfl ysd ypa yla ybw ywo yns ynw)) 0 [some (.inr (.inl 0)), some (.inl a), some (.inl b), none, none] [] := by
  subst ha hb
  have hG0 := hG
  obtain ⟨rfl, hn1, hn2, hcap, hK⟩ := hG
  obtain ⟨-, hB, -, hpa, hla⟩ := mT_some hT
  have loop : ∀ m, m ≤ n → Z (MW (nI n) ycap ych ycf yct ycw yfl ysd ypa yla ybw ywo yns ynw) 7 [some (.inr (.inl 0)), some (.inl (nI u)), some (.inl (nI l)), some (.inl (nI (cls0 n (tp n B) (tl n B) l u m))), some (.inl (nI m))] [] := by
    refine dn (Q := fun m => Z (MW (nI n) ycap ych ycf yct ycw yfl ysd ypa yla ybw ywo yns ynw) 7 [some (.inr (.inl 0)), some (.inl (nI u)), some (.inl (nI l)), some (.inl (nI (cls0 n (tp n B) (tl n B) l u m))), some (.inl (nI m))] []) ?_ ?_
    · refine hZ [] 40 _ _ _ _ ?_
      exact pk_le n n (fun _ => hp) (fun c => absurd c (by omega))
    · intro m hm h9
      have no : clf n (tp n B) (tl n B) l u m = false → Z (MW (nI n) ycap ych ycf yct ycw yfl ysd ypa yla ybw ywo yns ynw) 7 [some (.inr (.inl 0)), some (.inl (nI u)), some (.inl (nI l)), some (.inl (nI (cls0 n (tp n B) (tl n B) l u m) ||| nI 0)), some (.inl (nI m + 1))] [] := by
        intro e
        rw [cls0, bset, e, if_neg (by decide), ← Nat.or_assoc, ← bI_or, nI_succ m] at h9
        exact h9
      refine hZ [7] 60 _ _ _ _ ?_
      refine pk_le n m (fun c => absurd c (by omega)) (fun _ => ?_)
      refine pk_eq m u (fun c => ?_) (fun c => ?_)
      · exact no (by simp [clf, c])
      · have hlm := lm_le (n := n) (p := tp n B) (tl_le hB.1 hn2) u m
        refine HX5_leastOn (fl := true) hG0 hT rfl rfl hu hm (Ne.symm c) ?_
        refine pk_lt (lm n (tp n B) (tl n B) u m) l (fun c2 => ?_) (fun c2 => ?_)
        · exact no (by simp [clf]; omega)
        · have e : clf n (tp n B) (tl n B) l u m = true := by simp [clf, c, c2]
          rw [cls0, bset, e, if_pos rfl, ← Nat.or_assoc, ← bI_or, ← bI_only (by omega), nI_succ m] at h9
          exact h9
  refine hZ [7] 40 _ _ _ _ ?_
  have h0 := loop 0 (by omega)
  rw [cls0, bset, Nat.or_zero, ← bI_only (by omega)] at h0
  exact h0
theorem zX5_classBy (l : Launch) : zMet l yX5_classBy cX5_classBy 5 (some .int) rX5_classBy kX5_classBy := zMet_of (by decide) ⟨rfl, rfl⟩ (oX5_classBy l) (fun as0 st0 P h => by
  obtain ⟨yn, ycap, ych, ycf, yct, ycw, yfl, ysd, ypa, yla, ybw, ywo, yns, ynw, n, K, B, u, l, a, b, h0, h1, h2, h3, h4, h5, rfl, rfl, hz⟩ := h
  exact ⟨Nat.le_of_ble_eq_true rfl, fun Z hZ => wX5_classBy eX5_leastOn h0 h1 h2 h3 h4 h5 hz hZ⟩)

