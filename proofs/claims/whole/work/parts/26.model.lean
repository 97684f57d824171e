/-! THE REFERENCE: helpers, capacities, changes, weights. -/
def mG (yn : Int32) (ycap : Nat → Int32) (n : Nat) (K : Nat → Nat → Nat) : Prop := nI n = yn ∧ 2 ≤ n ∧ n ≤ 12 ∧ (∀ i j, i < 12 → j < 12 → ycap (12 * i + j) = nI (K i j)) ∧ gK n K
def mR (n : Nat) (cf ct cw : Nat → Int32) (ch : Int32) (L : List (Nat × Nat × Nat)) : Prop := nI L.length = ch ∧ L.length ≤ 40 ∧ (∀ i e, L[i]? = some e → cf (L.length - 1 - i) = nI e.1 ∧ ct (L.length - 1 - i) = nI e.2.1 ∧ cw (L.length - 1 - i) = nI e.2.2) ∧ (∀ e ∈ L, e.1 < n ∧ e.2.1 < n ∧ e.1 ≠ e.2.1 ∧ e.2.2 ≤ 999)
def mT (n : Nat) (ysd : Int32) (ypa yla ybw : Nat → Int32) (ob : Option (Nat → Nat → Nat)) : Prop :=
  (ob = none ∧ (0 : Int32) = ysd) ∨ ∃ B, ob = some B ∧ (1 : Int32) = ysd ∧ gK n B ∧ (∀ i j, i < 12 → j < 12 → ybw (12 * i + j) = nI (B i j)) ∧ (∀ k, k < n → ypa k = nI (tp n B k)) ∧ (∀ k, 0 < k → k < n → yla k = nI (tl n B k))
def mSt (a : AS) (σ : zS) : Prop := ∃ (yn : Int32) (ycap : Nat → Int32) (ych : Int32) (ycf yct ycw : Nat → Int32) (yfl ysd : Int32) (ypa yla ybw ywo : Nat → Int32) (yns ynw : Int32), σ = (MW yn ycap ych ycf yct ycw yfl ysd ypa yla ybw ywo yns ynw) ∧ mG yn ycap a.1 a.2.1 ∧ mR a.1 ycf yct ycw ych a.2.2.1 ∧ a.2.2.2.1 = yfl ∧ mT a.1 ysd ypa yla ybw a.2.2.2.2
theorem mSt_mk {n : Nat} {K : Nat → Nat → Nat} {L : List (Nat × Nat × Nat)} {F : Int32} {ob : Option (Nat → Nat → Nat)} {yn : Int32} {ycap : Nat → Int32} {ych : Int32} {ycf yct ycw : Nat → Int32} {yfl ysd : Int32} {ypa yla ybw ywo : Nat → Int32} {yns ynw : Int32} (h1 : mG yn ycap n K) (h2 : mR n ycf yct ycw ych L) (h3 : F = yfl) (h4 : mT n ysd ypa yla ybw ob) : mSt (n, K, L, F, ob) (MW yn ycap ych ycf yct ycw yfl ysd ypa yla ybw ywo yns ynw) := ⟨_, _, _, _, _, _, _, _, _, _, _, _, _, _, rfl, h1, h2, h3, h4⟩
theorem mT_0 {n : Nat} {ysd : Int32} {ypa yla ybw : Nat → Int32} {ob : Option (Nat → Nat → Nat)} (h : mT n ysd ypa yla ybw ob) : (ysd = 0 ∧ ob = none) ∨ (ysd = 1 ∧ ∃ B, ob = some B) := by
  rcases h with ⟨h1, h2⟩ | ⟨B, h1, h2, -⟩
  · exact Or.inl ⟨h2.symm, h1⟩
  · exact Or.inr ⟨h2.symm, B, h1⟩
theorem mT_some {n : Nat} {ysd : Int32} {ypa yla ybw : Nat → Int32} {B : Nat → Nat → Nat} (h : mT n ysd ypa yla ybw (some B)) : (1 : Int32) = ysd ∧ gK n B ∧ (∀ i j, i < 12 → j < 12 → ybw (12 * i + j) = nI (B i j)) ∧ (∀ k, k < n → ypa k = nI (tp n B k)) ∧ (∀ k, 0 < k → k < n → yla k = nI (tl n B k)) := by
  rcases h with ⟨h, -⟩ | ⟨B', h, h2⟩
  · cases h
  · cases h; exact h2
theorem ix12 (u v : Nat) : (12 : Int32) * nI u + nI v = nI (12 * u + v) := by
  rw [show (12 : Int32) = nI 12 from rfl, pk_mul, nI_add]
theorem in144 {u : Nat} (h : u < 144) : vp_in (nI u) 144 := vp_in_nI h (by omega)
theorem cl144 {u : Nat} (h : u < 144) : (nI u).toNatClampNeg = u := nI_clamp (by omega)
/-- within(x, lo, hi) -/
def kX5_within : zK := fun as0 st0 P => ∃ x : Int32, ∃ lo0 : Int32, ∃ hi0 : Int32, ∃ σ : zS, as0 = [.inl x, .inl lo0, .inl hi0] ∧ st0 = σ ∧ (P (some (.inl (b2i (decide (lo0 ≤ x ∧ x ≤ hi0))))) σ)
def iX5_within (C0 : zK) : Prop := ∀ {x : Int32} {lo0 : Int32} {hi0 : Int32} {σ : zS} {P : zP}, (P (some (.inl (b2i (decide (lo0 ≤ x ∧ x ≤ hi0))))) σ) → C0 [.inl x, .inl lo0, .inl hi0] (σ) P
theorem eX5_within : iX5_within kX5_within := by
  intro x lo0 hi0 σ P  hz
  exact ⟨x, lo0, hi0, σ, rfl, rfl, hz⟩
theorem oX5_within (l : Launch) : zOK l RX5 cX5_within rX5_within (some .boolean) (tX5_within, fX5, gX5, [], [], 2) := ⟨tX5_within_ok, fX5_ok, gX5_ok, fun _ h => absurd h List.not_mem_nil, by decide +kernel, rfl⟩
set_option maxRecDepth 100000 in
set_option maxHeartbeats 4000000 in
theorem wX5_within {x : Int32} {lo0 : Int32} {hi0 : Int32} {σ : zS} {P : zP} (hp : P (some (.inl (b2i (decide (lo0 ≤ x ∧ x ≤ hi0))))) σ) {Z : zH} (hZ : zcl (tX5_within, fX5, gX5, [], [], 2) P Z) : Z (σ) 0 [some (.inl x), some (.inl lo0), some (.inl hi0)] [] := by
  refine hZ [] 40 _ _ _ _ ?_
  refine And.intro (fun c => ?_) (fun c => ?_)
  · rw [decide_eq_false (fun q => Int32.not_le.mpr c q.1)] at hp
    exact And.intro (Or.inl rfl) hp
  · refine And.intro (fun c2 => ?_) (fun c2 => ?_)
    · rw [decide_eq_false (fun q => Int32.not_le.mpr c2 q.2)] at hp
      exact And.intro (Or.inl rfl) hp
    · rw [decide_eq_true ⟨Int32.not_lt.mp c, Int32.not_lt.mp c2⟩] at hp
      exact And.intro (Or.inr rfl) hp
theorem zX5_within (l : Launch) : zMet l yX5_within cX5_within 3 (some .boolean) rX5_within kX5_within := zMet_of (by decide) ⟨rfl, rfl⟩ (oX5_within l) (fun as0 st0 P h => by
  obtain ⟨x, lo0, hi0, σ, rfl, rfl, hz⟩ := h
  exact ⟨Nat.le_of_ble_eq_true rfl, fun Z hZ => wX5_within hz hZ⟩)

/-- isIn(S, k) -/
def kX5_isIn : zK := fun as0 st0 P => ∃ S : Nat, ∃ k : Nat, ∃ a : Int32, ∃ b : Int32, ∃ σ : zS, (a = nI S) ∧ (b = nI k) ∧ (S < 2 ^ 31) ∧ (k < 31) ∧ as0 = [.inl a, .inl b] ∧ st0 = σ ∧ (P (some (.inl (b2i (S.testBit k)))) σ)
def iX5_isIn (C0 : zK) : Prop := ∀ {S : Nat} {k : Nat} {a : Int32} {b : Int32} {σ : zS} {P : zP}, (a = nI S) → (b = nI k) → (S < 2 ^ 31) → (k < 31) → (P (some (.inl (b2i (S.testBit k)))) σ) → C0 [.inl a, .inl b] (σ) P
theorem eX5_isIn : iX5_isIn kX5_isIn := by
  intro S k a b σ P h0 h1 h2 h3 hz
  exact ⟨S, k, a, b, σ, h0, h1, h2, h3, rfl, rfl, hz⟩
theorem oX5_isIn (l : Launch) : zOK l RX5 cX5_isIn rX5_isIn (some .boolean) (tX5_isIn, fX5, gX5, [], [], 2) := ⟨tX5_isIn_ok, fX5_ok, gX5_ok, fun _ h => absurd h List.not_mem_nil, by decide +kernel, rfl⟩
set_option maxRecDepth 100000 in
set_option maxHeartbeats 4000000 in
theorem wX5_isIn {S : Nat} {k : Nat} {a : Int32} {b : Int32} {σ : zS} {P : zP} (ha : a = nI S) (hb : b = nI k) (hS : S < 2 ^ 31) (hk : k < 31) (hp : P (some (.inl (b2i (S.testBit k)))) σ) {Z : zH} (hZ : zcl (tX5_isIn, fX5, gX5, [], [], 2) P Z) : Z (σ) 0 [some (.inl a), some (.inl b)] [] := by
  refine hZ [] 40 _ _ _ _ ?_
  have e := bI_holds hS (by omega : k < 32)
  rw [← ha, ← hb] at e
  refine And.intro (fun c => ?_) (fun c => ?_)
  · rw [e] at c
    cases hb : S.testBit k with
    | false => rw [hb] at hp; exact And.intro (Or.inl rfl) hp
    | true => rw [hb] at c; exact absurd rfl c
  · rw [e] at c
    cases hb : S.testBit k with
    | false => rw [hb] at c; exact absurd c (by decide)
    | true => rw [hb] at hp; exact And.intro (Or.inr rfl) hp
theorem zX5_isIn (l : Launch) : zMet l yX5_isIn cX5_isIn 2 (some .boolean) rX5_isIn kX5_isIn := zMet_of (by decide) ⟨rfl, rfl⟩ (oX5_isIn l) (fun as0 st0 P h => by
  obtain ⟨S, k, a, b, σ, h0, h1, h2, h3, rfl, rfl, hz⟩ := h
  exact ⟨Nat.le_of_ble_eq_true rfl, fun Z hZ => wX5_isIn h0 h1 h2 h3 hz hZ⟩)

/-- isLimit(l) -/
def kX5_isLimit : zK := fun as0 st0 P => ∃ x : Int32, ∃ σ : zS, as0 = [.inl x] ∧ st0 = σ ∧ (P (some (.inl (b2i (okLim x)))) σ)
def iX5_isLimit (C0 : zK) : Prop := ∀ {x : Int32} {σ : zS} {P : zP}, (P (some (.inl (b2i (okLim x)))) σ) → C0 [.inl x] (σ) P
theorem eX5_isLimit : iX5_isLimit kX5_isLimit := by
  intro x σ P  hz
  exact ⟨x, σ, rfl, rfl, hz⟩
theorem oX5_isLimit (l : Launch) : zOK l RX5 cX5_isLimit rX5_isLimit (some .boolean) (tX5_isLimit, fX5, gX5, [(38, 3, 100, kX5_within)], [], 2) := ⟨tX5_isLimit_ok, fX5_ok, gX5_ok, List.forall_mem_cons.mpr ⟨⟨yX5_within, cX5_within, 3, (some .boolean), rX5_within, zX5_within l, by decide +kernel, ykX5_within, lkX5_38⟩, fun _ h => absurd h List.not_mem_nil⟩, by decide +kernel, rfl⟩
set_option maxRecDepth 100000 in
set_option maxHeartbeats 4000000 in
theorem wX5_isLimit {CX5_within : zK} (HX5_within : iX5_within CX5_within) {x : Int32} {σ : zS} {P : zP} (hp : P (some (.inl (b2i (okLim x)))) σ) {Z : zH} (hZ : zcl (tX5_isLimit, fX5, gX5, [(38, 3, 100, CX5_within)], [], 2) P Z) : Z (σ) 0 [some (.inl x)] [] := by
  refine hZ [] 40 _ _ _ _ ?_
  refine HX5_within ?_
  exact And.intro (b2i01 _) hp
theorem zX5_isLimit (l : Launch) : zMet l yX5_isLimit cX5_isLimit 1 (some .boolean) rX5_isLimit kX5_isLimit := zMet_of (by decide) ⟨rfl, rfl⟩ (oX5_isLimit l) (fun as0 st0 P h => by
  obtain ⟨x, σ, rfl, rfl, hz⟩ := h
  exact ⟨Nat.le_of_ble_eq_true rfl, fun Z hZ => wX5_isLimit eX5_within hz hZ⟩)

theorem okN_in {n : Nat} (hn1 : 0 < n) (hn : n ≤ 12) (x : Int32) : decide (0 ≤ x ∧ x ≤ nI n - 1) = okN n x := by
  obtain ⟨m, rfl⟩ : ∃ m, n = m + 1 := ⟨n - 1, by omega⟩
  rw [nI_pred, okN]
  apply decide_eq_decide.mpr
  constructor
  · rintro ⟨a, b⟩
    exact ⟨a, Int32.lt_of_le_of_lt b (nI_lt (by omega) (by omega))⟩
  · rintro ⟨a, b⟩
    refine ⟨a, ?_⟩
    obtain ⟨j, hj, rfl⟩ := nI_of (x := x) (Int32.not_lt.mpr a)
    have := (nI_ltI hj (by omega)).mp b
    exact nI_le (by omega) (by omega)
/-- noNode(k) -/
def kX5_noNode : zK := fun as0 st0 P => ∃ yn : Int32, ∃ ycap : Nat → Int32, ∃ ych : Int32, ∃ ycf : Nat → Int32, ∃ yct : Nat → Int32, ∃ ycw : Nat → Int32, ∃ yfl : Int32, ∃ ysd : Int32, ∃ ypa : Nat → Int32, ∃ yla : Nat → Int32, ∃ ybw : Nat → Int32, ∃ ywo : Nat → Int32, ∃ yns : Int32, ∃ ynw : Int32, ∃ n : Nat, ∃ k : Int32, (nI n = yn) ∧ (2 ≤ n) ∧ (n ≤ 12) ∧ as0 = [.inr (.inl 0), .inl k] ∧ st0 = (MW yn ycap ych ycf yct ycw yfl ysd ypa yla ybw ywo yns ynw) ∧ (P (some (.inl (b2i (!okN n k)))) (MW yn ycap ych ycf yct ycw yfl ysd ypa yla ybw ywo yns ynw))
def iX5_noNode (C0 : zK) : Prop := ∀ {yn : Int32} {ycap : Nat → Int32} {ych : Int32} {ycf : Nat → Int32} {yct : Nat → Int32} {ycw : Nat → Int32} {yfl : Int32} {ysd : Int32} {ypa : Nat → Int32} {yla : Nat → Int32} {ybw : Nat → Int32} {ywo : Nat → Int32} {yns : Int32} {ynw : Int32} {n : Nat} {k : Int32} {P : zP}, (nI n = yn) → (2 ≤ n) → (n ≤ 12) → (P (some (.inl (b2i (!okN n k)))) (MW yn ycap ych ycf yct ycw yfl ysd ypa yla ybw ywo yns ynw)) → C0 [.inr (.inl 0), .inl k] ((MW yn ycap ych ycf yct ycw yfl ysd ypa yla ybw ywo yns ynw)) P
theorem eX5_noNode : iX5_noNode kX5_noNode := by
  intro yn ycap ych ycf yct ycw yfl ysd ypa yla ybw ywo yns ynw n k P h0 h1 h2 hz
  exact ⟨yn, ycap, ych, ycf, yct, ycw, yfl, ysd, ypa, yla, ybw, ywo, yns, ynw, n, k, h0, h1, h2, rfl, rfl, hz⟩
theorem oX5_noNode (l : Launch) : zOK l RX5 cX5_noNode rX5_noNode (some .boolean) (tX5_noNode, fX5, gX5, [(38, 3, 100, kX5_within)], [], 2) := ⟨tX5_noNode_ok, fX5_ok, gX5_ok, List.forall_mem_cons.mpr ⟨⟨yX5_within, cX5_within, 3, (some .boolean), rX5_within, zX5_within l, by decide +kernel, ykX5_within, lkX5_38⟩, fun _ h => absurd h List.not_mem_nil⟩, by decide +kernel, rfl⟩
set_option maxRecDepth 100000 in
set_option maxHeartbeats 4000000 in
theorem wX5_noNode {CX5_within : zK} (HX5_within : iX5_within CX5_within) {yn : Int32} {ycap : Nat → Int32} {ych : Int32} {ycf : Nat → Int32} {yct : Nat → Int32} {ycw : Nat → Int32} {yfl : Int32} {ysd : Int32} {ypa : Nat → Int32} {yla : Nat → Int32} {ybw : Nat → Int32} {ywo : Nat → Int32} {yns : Int32} {ynw : Int32} {n : Nat} {k : Int32} {P : zP} (hn : nI n = yn) (hn1 : 2 ≤ n) (hn2 : n ≤ 12) (hp : P (some (.inl (b2i (!okN n k)))) (MW yn ycap ych ycf yct ycw yfl ysd ypa yla ybw ywo yns ynw)) {Z : zH} (hZ : zcl (tX5_noNode, fX5, gX5, [(38, 3, 100, CX5_within)], [], 2) P Z) : Z ((MW yn ycap ych ycf yct ycw yfl ysd ypa yla ybw ywo yns ynw)) 0 [some (.inr (.inl 0)), some (.inl k)] [] := by
  subst hn
  refine hZ [] 40 _ _ _ _ ?_
  refine HX5_within ?_
  rw [okN_in (by omega) hn2]
  refine bn (fun h => ?_) (fun h => ?_)
  · rw [h] at hp
    exact And.intro (Or.inl rfl) hp
  · rw [h] at hp
    exact And.intro (Or.inr rfl) hp
theorem zX5_noNode (l : Launch) : zMet l yX5_noNode cX5_noNode 2 (some .boolean) rX5_noNode kX5_noNode := zMet_of (by decide) ⟨rfl, rfl⟩ (oX5_noNode l) (fun as0 st0 P h => by
  obtain ⟨yn, ycap, ych, ycf, yct, ycw, yfl, ysd, ypa, yla, ybw, ywo, yns, ynw, n, k, h0, h1, h2, rfl, rfl, hz⟩ := h
  exact ⟨Nat.le_of_ble_eq_true rfl, fun Z hZ => wX5_noNode eX5_within h0 h1 h2 hz hZ⟩)

/-- twoBarred(u, v) -/
def kX5_twoBarred : zK := fun as0 st0 P => ∃ yn : Int32, ∃ ycap : Nat → Int32, ∃ ych : Int32, ∃ ycf : Nat → Int32, ∃ yct : Nat → Int32, ∃ ycw : Nat → Int32, ∃ yfl : Int32, ∃ ysd : Int32, ∃ ypa : Nat → Int32, ∃ yla : Nat → Int32, ∃ ybw : Nat → Int32, ∃ ywo : Nat → Int32, ∃ yns : Int32, ∃ ynw : Int32, ∃ n : Nat, ∃ a : Int32, ∃ b : Int32, (nI n = yn) ∧ (2 ≤ n) ∧ (n ≤ 12) ∧ as0 = [.inr (.inl 0), .inl a, .inl b] ∧ st0 = (MW yn ycap ych ycf yct ycw yfl ysd ypa yla ybw ywo yns ynw) ∧ (P (some (.inl (pe n a b))) (MW yn ycap ych ycf yct ycw yfl ysd ypa yla ybw ywo yns ynw))
def iX5_twoBarred (C0 : zK) : Prop := ∀ {yn : Int32} {ycap : Nat → Int32} {ych : Int32} {ycf : Nat → Int32} {yct : Nat → Int32} {ycw : Nat → Int32} {yfl : Int32} {ysd : Int32} {ypa : Nat → Int32} {yla : Nat → Int32} {ybw : Nat → Int32} {ywo : Nat → Int32} {yns : Int32} {ynw : Int32} {n : Nat} {a : Int32} {b : Int32} {P : zP}, (nI n = yn) → (2 ≤ n) → (n ≤ 12) → (P (some (.inl (pe n a b))) (MW yn ycap ych ycf yct ycw yfl ysd ypa yla ybw ywo yns ynw)) → C0 [.inr (.inl 0), .inl a, .inl b] ((MW yn ycap ych ycf yct ycw yfl ysd ypa yla ybw ywo yns ynw)) P
theorem eX5_twoBarred : iX5_twoBarred kX5_twoBarred := by
  intro yn ycap ych ycf yct ycw yfl ysd ypa yla ybw ywo yns ynw n a b P h0 h1 h2 hz
  exact ⟨yn, ycap, ych, ycf, yct, ycw, yfl, ysd, ypa, yla, ybw, ywo, yns, ynw, n, a, b, h0, h1, h2, rfl, rfl, hz⟩
theorem oX5_twoBarred (l : Launch) : zOK l RX5 cX5_twoBarred rX5_twoBarred (some .int) (tX5_twoBarred, fX5, gX5, [(42, 1, 5, kX5_noNode)], [], 1) := ⟨tX5_twoBarred_ok, fX5_ok, gX5_ok, List.forall_mem_cons.mpr ⟨⟨yX5_noNode, cX5_noNode, 2, (some .boolean), rX5_noNode, zX5_noNode l, by decide +kernel, ykX5_noNode, lkX5_42⟩, fun _ h => absurd h List.not_mem_nil⟩, by decide +kernel, rfl⟩
set_option maxRecDepth 100000 in
set_option maxHeartbeats 4000000 in
theorem wX5_twoBarred {CX5_noNode : zK} (HX5_noNode : iX5_noNode CX5_noNode) {yn : Int32} {ycap : Nat → Int32} {ych : Int32} {ycf : Nat → Int32} {yct : Nat → Int32} {ycw : Nat → Int32} {yfl : Int32} {ysd : Int32} {ypa : Nat → Int32} {yla : Nat → Int32} {ybw : Nat → Int32} {ywo : Nat → Int32} {yns : Int32} {ynw : Int32} {n : Nat} {a : Int32} {b : Int32} {P : zP} (hn : nI n = yn) (hn1 : 2 ≤ n) (hn2 : n ≤ 12) (hp : P (some (.inl (pe n a b))) (MW yn ycap ych ycf yct ycw yfl ysd ypa yla ybw ywo yns ynw)) {Z : zH} (hZ : zcl (tX5_twoBarred, fX5, gX5, [(42, 1, 5, CX5_noNode)], [], 1) P Z) : Z ((MW yn ycap ych ycf yct ycw yfl ysd ypa yla ybw ywo yns ynw)) 0 [some (.inr (.inl 0)), some (.inl a), some (.inl b)] [] := by
  refine hZ [] 40 _ _ _ _ ?_
  refine HX5_noNode hn hn1 hn2 ?_
  refine bn (fun h => ?_) (fun h => ?_)
  · rw [pe, if_neg (by intro q; rw [q.1] at h; cases h)] at hp
    exact hp
  · have h1 : okN n a = true := by simpa using h
    refine HX5_noNode hn hn1 hn2 ?_
    refine bz (fun h2 => ?_) (fun h2 => ?_)
    · have h2 : okN n b = true := by simpa using h2
      rw [pe, if_pos ⟨h1, h2⟩] at hp
      refine And.intro (fun c => ?_) (fun c => ?_)
      · rw [if_neg c] at hp
        exact hp
      · rw [if_pos c] at hp
        exact hp
    · rw [pe, if_neg (by intro q; rw [q.2] at h2; cases h2)] at hp
      exact hp
theorem zX5_twoBarred (l : Launch) : zMet l yX5_twoBarred cX5_twoBarred 3 (some .int) rX5_twoBarred kX5_twoBarred := zMet_of (by decide) ⟨rfl, rfl⟩ (oX5_twoBarred l) (fun as0 st0 P h => by
  obtain ⟨yn, ycap, ych, ycf, yct, ycw, yfl, ysd, ypa, yla, ybw, ywo, yns, ynw, n, a, b, h0, h1, h2, rfl, rfl, hz⟩ := h
  exact ⟨Nat.le_of_ble_eq_true rfl, fun Z hZ => wX5_twoBarred eX5_noNode h0 h1 h2 hz hZ⟩)

/-- full() -/
def kX5_full : zK := fun as0 st0 P => ∃ yn : Int32, ∃ ycap : Nat → Int32, ∃ ych : Int32, ∃ ycf : Nat → Int32, ∃ yct : Nat → Int32, ∃ ycw : Nat → Int32, ∃ yfl : Int32, ∃ ysd : Int32, ∃ ypa : Nat → Int32, ∃ yla : Nat → Int32, ∃ ybw : Nat → Int32, ∃ ywo : Nat → Int32, ∃ yns : Int32, ∃ ynw : Int32, ∃ n : Nat, (nI n = yn) ∧ (n ≤ 12) ∧ as0 = [.inr (.inl 0)] ∧ st0 = (MW yn ycap ych ycf yct ycw yfl ysd ypa yla ybw ywo yns ynw) ∧ (P (some (.inl (nI (2 ^ n - 1)))) (MW yn ycap ych ycf yct ycw yfl ysd ypa yla ybw ywo yns ynw))
def iX5_full (C0 : zK) : Prop := ∀ {yn : Int32} {ycap : Nat → Int32} {ych : Int32} {ycf : Nat → Int32} {yct : Nat → Int32} {ycw : Nat → Int32} {yfl : Int32} {ysd : Int32} {ypa : Nat → Int32} {yla : Nat → Int32} {ybw : Nat → Int32} {ywo : Nat → Int32} {yns : Int32} {ynw : Int32} {n : Nat} {P : zP}, (nI n = yn) → (n ≤ 12) → (P (some (.inl (nI (2 ^ n - 1)))) (MW yn ycap ych ycf yct ycw yfl ysd ypa yla ybw ywo yns ynw)) → C0 [.inr (.inl 0)] ((MW yn ycap ych ycf yct ycw yfl ysd ypa yla ybw ywo yns ynw)) P
theorem eX5_full : iX5_full kX5_full := by
  intro yn ycap ych ycf yct ycw yfl ysd ypa yla ybw ywo yns ynw n P h0 h1 hz
  exact ⟨yn, ycap, ych, ycf, yct, ycw, yfl, ysd, ypa, yla, ybw, ywo, yns, ynw, n, h0, h1, rfl, rfl, hz⟩
theorem oX5_full (l : Launch) : zOK l RX5 cX5_full rX5_full (some .int) (tX5_full, fX5, gX5, [], [], 1) := ⟨tX5_full_ok, fX5_ok, gX5_ok, fun _ h => absurd h List.not_mem_nil, by decide +kernel, rfl⟩
set_option maxRecDepth 100000 in
set_option maxHeartbeats 4000000 in
theorem wX5_full {yn : Int32} {ycap : Nat → Int32} {ych : Int32} {ycf : Nat → Int32} {yct : Nat → Int32} {ycw : Nat → Int32} {yfl : Int32} {ysd : Int32} {ypa : Nat → Int32} {yla : Nat → Int32} {ybw : Nat → Int32} {ywo : Nat → Int32} {yns : Int32} {ynw : Int32} {n : Nat} {P : zP} (hn : nI n = yn) (hn2 : n ≤ 12) (hp : P (some (.inl (nI (2 ^ n - 1)))) (MW yn ycap ych ycf yct ycw yfl ysd ypa yla ybw ywo yns ynw)) {Z : zH} (hZ : zcl (tX5_full, fX5, gX5, [], [], 1) P Z) : Z ((MW yn ycap ych ycf yct ycw yfl ysd ypa yla ybw ywo yns ynw)) 0 [some (.inr (.inl 0))] [] := by
  subst hn
  rw [← nI_full hn2] at hp
  exact hZ [] 40 _ _ _ _ hp
theorem zX5_full (l : Launch) : zMet l yX5_full cX5_full 1 (some .int) rX5_full kX5_full := zMet_of (by decide) ⟨rfl, rfl⟩ (oX5_full l) (fun as0 st0 P h => by
  obtain ⟨yn, ycap, ych, ycf, yct, ycw, yfl, ysd, ypa, yla, ybw, ywo, yns, ynw, n, h0, h1, rfl, rfl, hz⟩ := h
  exact ⟨Nat.le_of_ble_eq_true rfl, fun Z hZ => wX5_full h0 h1 hz hZ⟩)

theorem okC_in {n : Nat} (hn1 : 2 ≤ n) (hn : n ≤ 12) (x : Int32) : decide ((1 : Int32) ≤ x ∧ x ≤ nI (2 ^ n - 1) - 1) = okC n x := by
  have h1 := p12 hn
  have h2 := p12' hn1
  obtain ⟨m, hm⟩ : ∃ m, 2 ^ n - 1 = m + 1 := ⟨2 ^ n - 2, by omega⟩
  rw [okC, hm, nI_pred]
  apply decide_eq_decide.mpr
  constructor
  · rintro ⟨a, b⟩
    exact ⟨Int32.lt_of_lt_of_le (by decide) a, Int32.lt_of_le_of_lt b (nI_lt (by omega) (by omega))⟩
  · rintro ⟨a, b⟩
    obtain ⟨j, hj, rfl⟩ := nI_of (x := x) (Int32.not_lt.mpr (Int32.le_of_lt a))
    have a1 := (nI_ltI (by decide) hj).mp (show nI 0 < nI j from a)
    have b1 := (nI_ltI hj (by omega)).mp b
    exact ⟨nI_le (a := 1) (by omega) hj, nI_le (by omega) (by omega)⟩
/-- isCut(S) -/
def kX5_isCut : zK := fun as0 st0 P => ∃ yn : Int32, ∃ ycap : Nat → Int32, ∃ ych : Int32, ∃ ycf : Nat → Int32, ∃ yct : Nat → Int32, ∃ ycw : Nat → Int32, ∃ yfl : Int32, ∃ ysd : Int32, ∃ ypa : Nat → Int32, ∃ yla : Nat → Int32, ∃ ybw : Nat → Int32, ∃ ywo : Nat → Int32, ∃ yns : Int32, ∃ ynw : Int32, ∃ n : Nat, ∃ a : Int32, (nI n = yn) ∧ (2 ≤ n) ∧ (n ≤ 12) ∧ as0 = [.inr (.inl 0), .inl a] ∧ st0 = (MW yn ycap ych ycf yct ycw yfl ysd ypa yla ybw ywo yns ynw) ∧ (P (some (.inl (b2i (okC n a)))) (MW yn ycap ych ycf yct ycw yfl ysd ypa yla ybw ywo yns ynw))
def iX5_isCut (C0 : zK) : Prop := ∀ {yn : Int32} {ycap : Nat → Int32} {ych : Int32} {ycf : Nat → Int32} {yct : Nat → Int32} {ycw : Nat → Int32} {yfl : Int32} {ysd : Int32} {ypa : Nat → Int32} {yla : Nat → Int32} {ybw : Nat → Int32} {ywo : Nat → Int32} {yns : Int32} {ynw : Int32} {n : Nat} {a : Int32} {P : zP}, (nI n = yn) → (2 ≤ n) → (n ≤ 12) → (P (some (.inl (b2i (okC n a)))) (MW yn ycap ych ycf yct ycw yfl ysd ypa yla ybw ywo yns ynw)) → C0 [.inr (.inl 0), .inl a] ((MW yn ycap ych ycf yct ycw yfl ysd ypa yla ybw ywo yns ynw)) P
theorem eX5_isCut : iX5_isCut kX5_isCut := by
  intro yn ycap ych ycf yct ycw yfl ysd ypa yla ybw ywo yns ynw n a P h0 h1 h2 hz
  exact ⟨yn, ycap, ych, ycf, yct, ycw, yfl, ysd, ypa, yla, ybw, ywo, yns, ynw, n, a, h0, h1, h2, rfl, rfl, hz⟩
theorem oX5_isCut (l : Launch) : zOK l RX5 cX5_isCut rX5_isCut (some .boolean) (tX5_isCut, fX5, gX5, [(75, 0, 5, kX5_full), (38, 3, 100, kX5_within)], [], 2) := ⟨tX5_isCut_ok, fX5_ok, gX5_ok, List.forall_mem_cons.mpr ⟨⟨yX5_full, cX5_full, 1, (some .int), rX5_full, zX5_full l, by decide +kernel, ykX5_full, lkX5_75⟩, List.forall_mem_cons.mpr ⟨⟨yX5_within, cX5_within, 3, (some .boolean), rX5_within, zX5_within l, by decide +kernel, ykX5_within, lkX5_38⟩, fun _ h => absurd h List.not_mem_nil⟩⟩, by decide +kernel, rfl⟩
set_option maxRecDepth 100000 in
set_option maxHeartbeats 4000000 in
theorem wX5_isCut {CX5_full : zK} (HX5_full : iX5_full CX5_full) {CX5_within : zK} (HX5_within : iX5_within CX5_within) {yn : Int32} {ycap : Nat → Int32} {ych : Int32} {ycf : Nat → Int32} {yct : Nat → Int32} {ycw : Nat → Int32} {yfl : Int32} {ysd : Int32} {ypa : Nat → Int32} {yla : Nat → Int32} {ybw : Nat → Int32} {ywo : Nat → Int32} {yns : Int32} {ynw : Int32} {n : Nat} {a : Int32} {P : zP} (hn : nI n = yn) (hn1 : 2 ≤ n) (hn2 : n ≤ 12) (hp : P (some (.inl (b2i (okC n a)))) (MW yn ycap ych ycf yct ycw yfl ysd ypa yla ybw ywo yns ynw)) {Z : zH} (hZ : zcl (tX5_isCut, fX5, gX5, [(75, 0, 5, CX5_full), (38, 3, 100, CX5_within)], [], 2) P Z) : Z ((MW yn ycap ych ycf yct ycw yfl ysd ypa yla ybw ywo yns ynw)) 0 [some (.inr (.inl 0)), some (.inl a)] [] := by
  refine hZ [] 40 _ _ _ _ ?_
  refine HX5_full hn hn2 ?_
  refine HX5_within ?_
  rw [okC_in hn1 hn2]
  exact And.intro (b2i01 _) hp
theorem zX5_isCut (l : Launch) : zMet l yX5_isCut cX5_isCut 2 (some .boolean) rX5_isCut kX5_isCut := zMet_of (by decide) ⟨rfl, rfl⟩ (oX5_isCut l) (fun as0 st0 P h => by
  obtain ⟨yn, ycap, ych, ycf, yct, ycw, yfl, ysd, ypa, yla, ybw, ywo, yns, ynw, n, a, h0, h1, h2, rfl, rfl, hz⟩ := h
  exact ⟨Nat.le_of_ble_eq_true rfl, fun Z hZ => wX5_isCut eX5_full eX5_within h0 h1 h2 hz hZ⟩)

/-- putCapacity(u, v, c) -/
def kX5_putCapacity : zK := fun as0 st0 P => ∃ yn : Int32, ∃ ycap : Nat → Int32, ∃ ych : Int32, ∃ ycf : Nat → Int32, ∃ yct : Nat → Int32, ∃ ycw : Nat → Int32, ∃ yfl : Int32, ∃ ysd : Int32, ∃ ypa : Nat → Int32, ∃ yla : Nat → Int32, ∃ ybw : Nat → Int32, ∃ ywo : Nat → Int32, ∃ yns : Int32, ∃ ynw : Int32, ∃ a : Int32, ∃ b : Int32, ∃ c : Int32, ∃ u : Nat, ∃ v : Nat, (a = nI u) ∧ (b = nI v) ∧ (u < 12) ∧ (v < 12) ∧ as0 = [.inr (.inl 0), .inl a, .inl b, .inl c] ∧ st0 = (MW yn ycap ych ycf yct ycw yfl ysd ypa yla ybw ywo yns ynw) ∧ (∀ cap', (∀ i j, i < 12 → j < 12 → cap' (12 * i + j) = if (i = u ∧ j = v) ∨ (i = v ∧ j = u) then c else ycap (12 * i + j)) → P none (MW yn (cap') ych ycf yct ycw yfl ysd ypa yla ybw ywo yns ynw))
def iX5_putCapacity (C0 : zK) : Prop := ∀ {yn : Int32} {ycap : Nat → Int32} {ych : Int32} {ycf : Nat → Int32} {yct : Nat → Int32} {ycw : Nat → Int32} {yfl : Int32} {ysd : Int32} {ypa : Nat → Int32} {yla : Nat → Int32} {ybw : Nat → Int32} {ywo : Nat → Int32} {yns : Int32} {ynw : Int32} {a : Int32} {b : Int32} {c : Int32} {u : Nat} {v : Nat} {P : zP}, (a = nI u) → (b = nI v) → (u < 12) → (v < 12) → (∀ cap', (∀ i j, i < 12 → j < 12 → cap' (12 * i + j) = if (i = u ∧ j = v) ∨ (i = v ∧ j = u) then c else ycap (12 * i + j)) → P none (MW yn (cap') ych ycf yct ycw yfl ysd ypa yla ybw ywo yns ynw)) → C0 [.inr (.inl 0), .inl a, .inl b, .inl c] ((MW yn ycap ych ycf yct ycw yfl ysd ypa yla ybw ywo yns ynw)) P
theorem eX5_putCapacity : iX5_putCapacity kX5_putCapacity := by
  intro yn ycap ych ycf yct ycw yfl ysd ypa yla ybw ywo yns ynw a b c u v P h0 h1 h2 h3 hz
  exact ⟨yn, ycap, ych, ycf, yct, ycw, yfl, ysd, ypa, yla, ybw, ywo, yns, ynw, a, b, c, u, v, h0, h1, h2, h3, rfl, rfl, hz⟩
theorem oX5_putCapacity (l : Launch) : zOK l RX5 cX5_putCapacity rX5_putCapacity none (tX5_putCapacity, fX5, gX5, [], [], 0) := ⟨tX5_putCapacity_ok, fX5_ok, gX5_ok, fun _ h => absurd h List.not_mem_nil, by decide +kernel, rfl⟩
set_option maxRecDepth 100000 in
set_option maxHeartbeats 4000000 in
theorem wX5_putCapacity {yn : Int32} {ycap : Nat → Int32} {ych : Int32} {ycf : Nat → Int32} {yct : Nat → Int32} {ycw : Nat → Int32} {yfl : Int32} {ysd : Int32} {ypa : Nat → Int32} {yla : Nat → Int32} {ybw : Nat → Int32} {ywo : Nat → Int32} {yns : Int32} {ynw : Int32} {a : Int32} {b : Int32} {c : Int32} {u : Nat} {v : Nat} {P : zP} (ha : a = nI u) (hb : b = nI v) (hu : u < 12) (hv : v < 12) (hp : ∀ cap', (∀ i j, i < 12 → j < 12 → cap' (12 * i + j) = if (i = u ∧ j = v) ∨ (i = v ∧ j = u) then c else ycap (12 * i + j)) → P none (MW yn (cap') ych ycf yct ycw yfl ysd ypa yla ybw ywo yns ynw)) {Z : zH} (hZ : zcl (tX5_putCapacity, fX5, gX5, [], [], 0) P Z) : Z ((MW yn ycap ych ycf yct ycw yfl ysd ypa yla ybw ywo yns ynw)) 0 [some (.inr (.inl 0)), some (.inl a), some (.inl b), some (.inl c)] [] := by
  subst ha hb
  refine hZ [] 40 _ _ _ _ ?_
  refine And.intro (by rw [ix12]; exact in144 (by omega)) ?_
  rw [ix12, cl144 (by omega)]
  refine And.intro (by rw [ix12]; exact in144 (by omega)) ?_
  rw [ix12, cl144 (by omega)]
  refine hp _ (fun i j hi hj => ?_)
  by_cases e1 : 12 * i + j = 12 * v + u
  · rw [e1, pk_us, if_pos (by omega)]
  · rw [pk_un e1]
    by_cases e2 : 12 * i + j = 12 * u + v
    · rw [e2, pk_us, if_pos (by omega)]
    · rw [pk_un e2, if_neg (by omega)]
theorem zX5_putCapacity (l : Launch) : zMet l yX5_putCapacity cX5_putCapacity 4 none rX5_putCapacity kX5_putCapacity := zMet_of (by decide) ⟨rfl, rfl⟩ (oX5_putCapacity l) (fun as0 st0 P h => by
  obtain ⟨yn, ycap, ych, ycf, yct, ycw, yfl, ysd, ypa, yla, ybw, ywo, yns, ynw, a, b, c, u, v, h0, h1, h2, h3, rfl, rfl, hz⟩ := h
  exact ⟨Nat.le_of_ble_eq_true rfl, fun Z hZ => wX5_putCapacity h0 h1 h2 h3 hz hZ⟩)

theorem mG_put {n u v w : Nat} {yn c : Int32} {ycap cap' : Nat → Int32} {K : Nat → Nat → Nat} (hG : mG yn ycap n K) (hu : u < n) (hv : v < n) (huv : u ≠ v) (hw : w ≤ 999) (hc : c = nI w) (h : ∀ i j, i < 12 → j < 12 → cap' (12 * i + j) = if (i = u ∧ j = v) ∨ (i = v ∧ j = u) then c else ycap (12 * i + j)) : mG yn cap' n (put K u v w) := by
  obtain ⟨h1, h2, h3, h4, h5⟩ := hG
  refine ⟨h1, h2, h3, fun i j hi hj => ?_, gK_put h5 hu hv huv hw⟩
  rw [h i j hi hj]
  unfold put
  split
  · exact hc
  · exact h4 i j hi hj
/-- a row moved down by one, up to place m -/
def shf (f : Nat → Int32) (m : Nat) : Nat → Int32 := fun j => if j < m then f (j + 1) else f j
theorem shf_step {f : Nat → Int32} {m : Nat} : upd (shf f m) m (f (m + 1)) = shf f (m + 1) := by
  funext j
  by_cases h : j = m
  · subst h; simp [upd, shf]
  · by_cases h2 : j < m
    · simp [upd, shf, h, h2, Nat.lt_succ_of_lt h2]
    · simp [upd, shf, h, h2, show ¬ j < m + 1 by omega]
theorem shf_0 {f : Nat → Int32} : shf f 0 = f := by funext j; simp [shf]
/-- keepChange(u, v, w) -/
def kX5_keepChange : zK := fun as0 st0 P => ∃ yn : Int32, ∃ ycap : Nat → Int32, ∃ ych : Int32, ∃ ycf : Nat → Int32, ∃ yct : Nat → Int32, ∃ ycw : Nat → Int32, ∃ yfl : Int32, ∃ ysd : Int32, ∃ ypa : Nat → Int32, ∃ yla : Nat → Int32, ∃ ybw : Nat → Int32, ∃ ywo : Nat → Int32, ∃ yns : Int32, ∃ ynw : Int32, ∃ n : Nat, ∃ u : Nat, ∃ v : Nat, ∃ w : Nat, ∃ a : Int32, ∃ b : Int32, ∃ c : Int32, ∃ L : List (Nat × Nat × Nat), (mR n ycf yct ycw ych L) ∧ (a = nI u) ∧ (b = nI v) ∧ (c = nI w) ∧ (u < n) ∧ (v < n) ∧ (u ≠ v) ∧ (w ≤ 999) ∧ as0 = [.inr (.inl 0), .inl a, .inl b, .inl c] ∧ st0 = (MW yn ycap ych ycf yct ycw yfl ysd ypa yla ybw ywo yns ynw) ∧ (∀ cf' ct' cw' ch', mR n cf' ct' cw' ch' (((u, v, w) :: L).take 40) → P none (MW yn ycap (ch') (cf') (ct') (cw') yfl ysd ypa yla ybw ywo yns ynw))
def iX5_keepChange (C0 : zK) : Prop := ∀ {yn : Int32} {ycap : Nat → Int32} {ych : Int32} {ycf : Nat → Int32} {yct : Nat → Int32} {ycw : Nat → Int32} {yfl : Int32} {ysd : Int32} {ypa : Nat → Int32} {yla : Nat → Int32} {ybw : Nat → Int32} {ywo : Nat → Int32} {yns : Int32} {ynw : Int32} {n : Nat} {u : Nat} {v : Nat} {w : Nat} {a : Int32} {b : Int32} {c : Int32} {L : List (Nat × Nat × Nat)} {P : zP}, (mR n ycf yct ycw ych L) → (a = nI u) → (b = nI v) → (c = nI w) → (u < n) → (v < n) → (u ≠ v) → (w ≤ 999) → (∀ cf' ct' cw' ch', mR n cf' ct' cw' ch' (((u, v, w) :: L).take 40) → P none (MW yn ycap (ch') (cf') (ct') (cw') yfl ysd ypa yla ybw ywo yns ynw)) → C0 [.inr (.inl 0), .inl a, .inl b, .inl c] ((MW yn ycap ych ycf yct ycw yfl ysd ypa yla ybw ywo yns ynw)) P
theorem eX5_keepChange : iX5_keepChange kX5_keepChange := by
  intro yn ycap ych ycf yct ycw yfl ysd ypa yla ybw ywo yns ynw n u v w a b c L P h0 h1 h2 h3 h4 h5 h6 h7 hz
  exact ⟨yn, ycap, ych, ycf, yct, ycw, yfl, ysd, ypa, yla, ybw, ywo, yns, ynw, n, u, v, w, a, b, c, L, h0, h1, h2, h3, h4, h5, h6, h7, rfl, rfl, hz⟩
theorem oX5_keepChange (l : Launch) : zOK l RX5 cX5_keepChange rX5_keepChange none (tX5_keepChange, fX5, gX5, [], [], 0) := ⟨tX5_keepChange_ok, fX5_ok, gX5_ok, fun _ h => absurd h List.not_mem_nil, by decide +kernel, rfl⟩
set_option maxRecDepth 100000 in
set_option maxHeartbeats 4000000 in
theorem wX5_keepChange {yn : Int32} {ycap : Nat → Int32} {ych : Int32} {ycf : Nat → Int32} {yct : Nat → Int32} {ycw : Nat → Int32} {yfl : Int32} {ysd : Int32} {ypa : Nat → Int32} {yla : Nat → Int32} {ybw : Nat → Int32} {ywo : Nat → Int32} {yns : Int32} {ynw : Int32} {n : Nat} {u : Nat} {v : Nat} {w : Nat} {a : Int32} {b : Int32} {c : Int32} {L : List (Nat × Nat × Nat)} {P : zP} (hL : mR n ycf yct ycw ych L) (ha : a = nI u) (hb : b = nI v) (hc : c = nI w) (hu : u < n) (hv : v < n) (huv : u ≠ v) (hw : w ≤ 999) (hp : ∀ cf' ct' cw' ch', mR n cf' ct' cw' ch' (((u, v, w) :: L).take 40) → P none (MW yn ycap (ch') (cf') (ct') (cw') yfl ysd ypa yla ybw ywo yns ynw)) {Z : zH} (hZ : zcl (tX5_keepChange, fX5, gX5, [], [], 0) P Z) : Z ((MW yn ycap ych ycf yct ycw yfl ysd ypa yla ybw ywo yns ynw)) 0 [some (.inr (.inl 0)), some (.inl a), some (.inl b), some (.inl c), none] [] := by
  subst ha hb hc
  obtain ⟨rfl, hl, h1, h2⟩ := hL
  have last : ∀ (m : Nat) (cf' ct' cw' : Nat → Int32) (o : Option zV), m < 40 → mR n (upd cf' m (nI u)) (upd ct' m (nI v)) (upd cw' m (nI w)) (nI (m + 1)) (((u, v, w) :: L).take 40) → Z (MW yn ycap (nI m) (cf') (ct') (cw') yfl ysd ypa yla ybw ywo yns ynw) 85 [some (.inr (.inl 0)), some (.inl (nI u)), some (.inl (nI v)), some (.inl (nI w)), o] [] := by
    intro m cf' ct' cw' o hm h9
    refine hZ [] 60 _ _ _ _ ?_
    refine And.intro (in40 hm) ?_
    rw [cl40 hm]
    refine And.intro (in40 hm) ?_
    rw [cl40 hm]
    refine And.intro (in40 hm) ?_
    rw [cl40 hm]
    rw [nI_succ] at h9
    exact hp _ _ _ _ h9
  by_cases hfull : L.length = 40
  · have hend : mR n (upd (shf ycf 39) 39 (nI u)) (upd (shf yct 39) 39 (nI v)) (upd (shf ycw 39) 39 (nI w)) (nI (39 + 1)) (((u, v, w) :: L).take 40) := by
      have hlen : (((u, v, w) :: L).take 40).length = 40 := by rw [List.length_take, List.length_cons]; omega
      refine ⟨by rw [hlen], by rw [hlen]; omega, fun i e he => ?_, fun e he => ?_⟩
      · rw [hlen]
        rw [List.getElem?_take] at he
        split at he
        · rename_i hi
          cases i with
          | zero =>
            simp at he
            subst he
            exact ⟨pk_us, pk_us, pk_us⟩
          | succ i =>
            rw [List.getElem?_cons_succ] at he
            have h3 := h1 i e he
            rw [hfull] at h3
            have e1 : 40 - 1 - (i + 1) ≠ 39 := by omega
            rw [pk_un e1, pk_un e1, pk_un e1]
            have e2 : 40 - 1 - (i + 1) + 1 = 40 - 1 - i := by omega
            have e3 : 40 - 1 - (i + 1) < 39 := by omega
            simp only [shf, if_pos e3, e2]
            exact h3
        · cases he
      · rcases List.mem_cons.mp (List.mem_of_mem_take he) with rfl | he
        · exact ⟨hu, hv, huv, hw⟩
        · exact h2 e he
    have loop : ∀ m, m ≤ 39 → Z (MW yn ycap (nI 39) (shf ycf m) (shf yct m) (shf ycw m) yfl ysd ypa yla ybw ywo yns ynw) 22 [some (.inr (.inl 0)), some (.inl (nI u)), some (.inl (nI v)), some (.inl (nI w)), some (.inl (nI m))] [] := by
      refine dn (Q := fun m => Z (MW yn ycap (nI 39) (shf ycf m) (shf yct m) (shf ycw m) yfl ysd ypa yla ybw ywo yns ynw) 22 [some (.inr (.inl 0)), some (.inl (nI u)), some (.inl (nI v)), some (.inl (nI w)), some (.inl (nI m))] []) ?_ ?_
      · refine hZ [85] 40 _ _ _ _ ?_
        refine pk_le 39 39 (fun _ => ?_) (fun c => absurd c (by omega))
        exact last 39 _ _ _ _ (by omega) hend
      · intro m hm h9
        have es : ∀ f : Nat → Int32, shf f m (m + 1) = f (m + 1) := fun f => if_neg (by omega)
        refine hZ [22] 60 _ _ _ _ ?_
        refine pk_le 39 m (fun c => absurd c (by omega)) (fun _ => ?_)
        refine And.intro (by rw [nI_1]; exact in40 (by omega)) ?_
        rw [nI_1, cl40 (by omega), es]
        refine And.intro (in40 (by omega)) ?_
        rw [cl40 (by omega)]
        refine And.intro (by rw [nI_1]; exact in40 (by omega)) ?_
        rw [nI_1, cl40 (by omega), es]
        refine And.intro (in40 (by omega)) ?_
        rw [cl40 (by omega)]
        refine And.intro (by rw [nI_1]; exact in40 (by omega)) ?_
        rw [nI_1, cl40 (by omega), es]
        refine And.intro (in40 (by omega)) ?_
        rw [cl40 (by omega)]
        rw [← shf_step, ← shf_step, ← shf_step, nI_succ m] at h9
        exact h9
    refine hZ [22] 40 _ _ _ _ ?_
    refine And.intro (fun c => absurd (by rw [hfull]; rfl) c) (fun _ => ?_)
    rw [hfull]
    have h0 := loop 0 (by omega)
    rw [shf_0, shf_0, shf_0] at h0
    exact h0
  · have hlt : L.length < 40 := by omega
    refine hZ [85] 40 _ _ _ _ ?_
    refine And.intro (fun _ => ?_) (fun c => absurd ((nI_eq (by omega) (by omega)).mp (show nI L.length = nI 40 from c)) hfull)
    refine last L.length ycf yct ycw none hlt ?_
    have htk : ((u, v, w) :: L).take 40 = (u, v, w) :: L := List.take_of_length_le (by rw [List.length_cons]; omega)
    rw [htk]
    refine ⟨by rw [List.length_cons], by rw [List.length_cons]; omega, fun i e he => ?_, fun e he => ?_⟩
    · rw [List.length_cons]
      cases i with
      | zero =>
        simp at he
        subst he
        rw [show L.length + 1 - 1 - 0 = L.length by omega]
        exact ⟨pk_us, pk_us, pk_us⟩
      | succ i =>
        rw [List.getElem?_cons_succ] at he
        have hi := (List.getElem?_eq_some_iff.mp he).1
        have e1 : L.length + 1 - 1 - (i + 1) ≠ L.length := by omega
        rw [pk_un e1, pk_un e1, pk_un e1, show L.length + 1 - 1 - (i + 1) = L.length - 1 - i by omega]
        exact h1 i e he
    · rcases List.mem_cons.mp he with rfl | he
      · exact ⟨hu, hv, huv, hw⟩
      · exact h2 e he
theorem zX5_keepChange (l : Launch) : zMet l yX5_keepChange cX5_keepChange 5 none rX5_keepChange kX5_keepChange := zMet_of (by decide) ⟨rfl, rfl⟩ (oX5_keepChange l) (fun as0 st0 P h => by
  obtain ⟨yn, ycap, ych, ycf, yct, ycw, yfl, ysd, ypa, yla, ybw, ywo, yns, ynw, n, u, v, w, a, b, c, L, h0, h1, h2, h3, h4, h5, h6, h7, rfl, rfl, hz⟩ := h
  exact ⟨Nat.le_of_ble_eq_true rfl, fun Z hZ => wX5_keepChange h0 h1 h2 h3 h4 h5 h6 h7 hz hZ⟩)

