/-! STATIC HELPERS: bits, limits, min, max, fill. -/
def b2i (b : Bool) : Int32 := cond b 1 0
theorem b2i01 (b : Bool) : b2i b = 0 ∨ b2i b = 1 := by cases b <;> simp [b2i]
/-- a branch on a boolean: ifeq, ifne -/
theorem bz {b : Bool} {A B : Prop} (f : b = false → A) (g : b = true → B) : (b2i b = 0 → A) ∧ (¬ b2i b = 0 → B) := by
  cases b
  · exact ⟨fun _ => f rfl, fun h => absurd rfl h⟩
  · exact ⟨fun h => absurd h (by decide), fun _ => g rfl⟩
theorem bn {b : Bool} {A B : Prop} (f : b = true → A) (g : b = false → B) : (¬ b2i b = 0 → A) ∧ (b2i b = 0 → B) := by
  cases b
  · exact ⟨fun h => absurd rfl h, fun _ => g rfl⟩
  · exact ⟨fun _ => f rfl, fun h => absurd h (by decide)⟩
theorem bI_and (a b : Nat) : nI a &&& nI b = nI (a &&& b) := by
  apply Int32.toBitVec_inj.1
  show BitVec.ofNat 32 a &&& BitVec.ofNat 32 b = BitVec.ofNat 32 (a &&& b)
  apply BitVec.eq_of_getLsbD_eq
  intro i hi
  simp [BitVec.getLsbD_ofNat, hi, Nat.testBit_and]
theorem bI_or (a b : Nat) : nI a ||| nI b = nI (a ||| b) := by
  apply Int32.toBitVec_inj.1
  show BitVec.ofNat 32 a ||| BitVec.ofNat 32 b = BitVec.ofNat 32 (a ||| b)
  apply BitVec.eq_of_getLsbD_eq
  intro i hi
  simp [BitVec.getLsbD_ofNat, hi, Nat.testBit_or]
theorem bI_s : ∀ n, n < 32 → ((nI n &&& 31).toBitVec.smod 32).toNat = n := by decide +kernel
theorem bI_bit {S k : Nat} (hS : S < 2 ^ 31) (hk : k < 32) : (nI S >>> (nI k &&& 31)) &&& 1 = nI (S / 2 ^ k % 2) := by
  rw [pk_shrN hS _ k (bI_s k hk)]
  exact pk_andN (Nat.lt_of_le_of_lt (Nat.div_le_self _ _) (by omega)) 1 (by decide)
theorem bI_test (S k : Nat) : S / 2 ^ k % 2 = (cond (S.testBit k) 1 0) := by
  rw [Nat.testBit_eq_decide_div_mod_eq]
  have : S / 2 ^ k % 2 < 2 := Nat.mod_lt _ (by decide)
  by_cases h : S / 2 ^ k % 2 = 1
  · simp [h]
  · have h0 : S / 2 ^ k % 2 = 0 := by omega
    simp [h0]
theorem bI_holds {S k : Nat} (hS : S < 2 ^ 31) (hk : k < 32) : (nI S >>> (nI k &&& 31)) &&& 1 = b2i (S.testBit k) := by
  rw [bI_bit hS hk, bI_test]
  cases S.testBit k <;> decide
theorem bI_only {k : Nat} (hk : k < 31) : (1 : Int32) <<< (nI k &&& 31) = nI (2 ^ k) := by
  have h := pk_shlN (n := 1) (nI k &&& 31) k (bI_s k (by omega)) (by rw [Nat.one_mul]; exact Nat.pow_lt_pow_right (by decide) (by omega))
  rw [Nat.one_mul] at h
  exact h
/-- holds(S, k): is node k in the set S -/
def kX4_holds : zK := fun as0 st0 P => ∃ S : Nat, ∃ k : Nat, ∃ a : Int32, ∃ b : Int32, ∃ σ : zS, (a = nI S) ∧ (b = nI k) ∧ (S < 2 ^ 31) ∧ (k < 31) ∧ as0 = [.inl a, .inl b] ∧ st0 = σ ∧ (P (some (.inl (b2i (S.testBit k)))) σ)
def iX4_holds (C0 : zK) : Prop := ∀ {S : Nat} {k : Nat} {a : Int32} {b : Int32} {σ : zS} {P : zP}, (a = nI S) → (b = nI k) → (S < 2 ^ 31) → (k < 31) → (P (some (.inl (b2i (S.testBit k)))) σ) → C0 [.inl a, .inl b] (σ) P
theorem eX4_holds : iX4_holds kX4_holds := by
  intro S k a b σ P h0 h1 h2 h3 hz
  exact ⟨S, k, a, b, σ, h0, h1, h2, h3, rfl, rfl, hz⟩
theorem oX4_holds (l : Launch) : zOK l RX4 cX4_holds rX4_holds (some .boolean) (tX4_holds, fX4, gX4, [], [], 2) := ⟨tX4_holds_ok, fX4_ok, gX4_ok, fun _ h => absurd h List.not_mem_nil, by decide +kernel, rfl⟩
set_option maxRecDepth 100000 in
set_option maxHeartbeats 4000000 in
theorem wX4_holds {S : Nat} {k : Nat} {a : Int32} {b : Int32} {σ : zS} {P : zP} (ha : a = nI S) (hb : b = nI k) (hS : S < 2 ^ 31) (hk : k < 31) (hp : P (some (.inl (b2i (S.testBit k)))) σ) {Z : zH} (hZ : zcl (tX4_holds, fX4, gX4, [], [], 2) P Z) : Z (σ) 0 [some (.inl a), some (.inl b)] [] := by
  refine hZ [] 20 _ _ _ _ ?_
  have e := bI_holds hS (by omega : k < 32)
  rw [← ha, ← hb] at e
  refine And.intro (fun c => ?_) (fun c => ?_)
  · refine And.intro (Or.inl rfl) ?_
    rw [e] at c
    cases hb : S.testBit k with
    | false => rw [hb] at hp; exact hp
    | true => rw [hb] at c; exact absurd c (by decide)
  · refine And.intro (Or.inr rfl) ?_
    rw [e] at c
    cases hb : S.testBit k with
    | false => rw [hb] at c; exact absurd rfl c
    | true => rw [hb] at hp; exact hp
theorem zX4_holds (l : Launch) : zMet l yX4_holds cX4_holds 2 (some .boolean) rX4_holds kX4_holds := zMet_of (by decide) ⟨rfl, rfl⟩ (oX4_holds l) (fun as0 st0 P h => by
  obtain ⟨S, k, a, b, σ, h0, h1, h2, h3, rfl, rfl, hz⟩ := h
  exact ⟨Nat.le_of_ble_eq_true rfl, fun Z hZ => wX4_holds h0 h1 h2 h3 hz hZ⟩)

/-- only(k): the set of node k alone -/
def kX4_only : zK := fun as0 st0 P => ∃ k : Nat, ∃ b : Int32, ∃ σ : zS, (b = nI k) ∧ (k < 31) ∧ as0 = [.inl b] ∧ st0 = σ ∧ (P (some (.inl (nI (2 ^ k)))) σ)
def iX4_only (C0 : zK) : Prop := ∀ {k : Nat} {b : Int32} {σ : zS} {P : zP}, (b = nI k) → (k < 31) → (P (some (.inl (nI (2 ^ k)))) σ) → C0 [.inl b] (σ) P
theorem eX4_only : iX4_only kX4_only := by
  intro k b σ P h0 h1 hz
  exact ⟨k, b, σ, h0, h1, rfl, rfl, hz⟩
theorem oX4_only (l : Launch) : zOK l RX4 cX4_only rX4_only (some .int) (tX4_only, fX4, gX4, [], [], 1) := ⟨tX4_only_ok, fX4_ok, gX4_ok, fun _ h => absurd h List.not_mem_nil, by decide +kernel, rfl⟩
set_option maxRecDepth 100000 in
set_option maxHeartbeats 4000000 in
theorem wX4_only {k : Nat} {b : Int32} {σ : zS} {P : zP} (hb : b = nI k) (hk : k < 31) (hp : P (some (.inl (nI (2 ^ k)))) σ) {Z : zH} (hZ : zcl (tX4_only, fX4, gX4, [], [], 1) P Z) : Z (σ) 0 [some (.inl b)] [] := by
  refine hZ [] 20 _ _ _ _ ?_
  rw [← bI_only hk, ← hb] at hp
  exact hp
theorem zX4_only (l : Launch) : zMet l yX4_only cX4_only 1 (some .int) rX4_only kX4_only := zMet_of (by decide) ⟨rfl, rfl⟩ (oX4_only l) (fun as0 st0 P h => by
  obtain ⟨k, b, σ, h0, h1, rfl, rfl, hz⟩ := h
  exact ⟨Nat.le_of_ble_eq_true rfl, fun Z hZ => wX4_only h0 h1 hz hZ⟩)

def sep (S u v : Nat) : Bool := S.testBit u != S.testBit v
theorem b2i_inj {a b : Bool} : b2i a = b2i b ↔ a = b := by cases a <;> cases b <;> decide
/-- separates(S, u, v): is just one of the nodes in the set -/
def kX4_separates : zK := fun as0 st0 P => ∃ S : Nat, ∃ u : Nat, ∃ v : Nat, ∃ a : Int32, ∃ b : Int32, ∃ c : Int32, ∃ σ : zS, (a = nI S) ∧ (b = nI u) ∧ (c = nI v) ∧ (S < 2 ^ 31) ∧ (u < 31) ∧ (v < 31) ∧ as0 = [.inl a, .inl b, .inl c] ∧ st0 = σ ∧ (P (some (.inl (b2i (sep S u v)))) σ)
def iX4_separates (C0 : zK) : Prop := ∀ {S : Nat} {u : Nat} {v : Nat} {a : Int32} {b : Int32} {c : Int32} {σ : zS} {P : zP}, (a = nI S) → (b = nI u) → (c = nI v) → (S < 2 ^ 31) → (u < 31) → (v < 31) → (P (some (.inl (b2i (sep S u v)))) σ) → C0 [.inl a, .inl b, .inl c] (σ) P
theorem eX4_separates : iX4_separates kX4_separates := by
  intro S u v a b c σ P h0 h1 h2 h3 h4 h5 hz
  exact ⟨S, u, v, a, b, c, σ, h0, h1, h2, h3, h4, h5, rfl, rfl, hz⟩
theorem oX4_separates (l : Launch) : zOK l RX4 cX4_separates rX4_separates (some .boolean) (tX4_separates, fX4, gX4, [(149, 2, 100, kX4_holds)], [], 2) := ⟨tX4_separates_ok, fX4_ok, gX4_ok, List.forall_mem_cons.mpr ⟨⟨yX4_holds, cX4_holds, 2, (some .boolean), rX4_holds, zX4_holds l, by decide +kernel, ykX4_holds, lkX4_149⟩, fun _ h => absurd h List.not_mem_nil⟩, by decide +kernel, rfl⟩
set_option maxRecDepth 100000 in
set_option maxHeartbeats 4000000 in
theorem wX4_separates {CX4_holds : zK} (HX4_holds : iX4_holds CX4_holds) {S : Nat} {u : Nat} {v : Nat} {a : Int32} {b : Int32} {c : Int32} {σ : zS} {P : zP} (ha : a = nI S) (hb : b = nI u) (hc : c = nI v) (hS : S < 2 ^ 31) (hu : u < 31) (hv : v < 31) (hp : P (some (.inl (b2i (sep S u v)))) σ) {Z : zH} (hZ : zcl (tX4_separates, fX4, gX4, [(149, 2, 100, CX4_holds)], [], 2) P Z) : Z (σ) 0 [some (.inl a), some (.inl b), some (.inl c)] [] := by
  refine hZ [] 20 _ _ _ _ ?_
  refine HX4_holds ha hb hS hu ?_
  refine HX4_holds ha hc hS hv ?_
  refine And.intro (fun c => ?_) (fun c => ?_)
  · refine And.intro (Or.inl rfl) ?_
    have e : sep S u v = false := by rw [sep, b2i_inj.mp c]; simp
    rw [e] at hp
    exact hp
  · refine And.intro (Or.inr rfl) ?_
    have c2 : S.testBit u ≠ S.testBit v := fun q => c (by rw [q])
    have e : sep S u v = true := by rw [sep, bne_iff_ne]; exact c2
    rw [e] at hp
    exact hp
theorem zX4_separates (l : Launch) : zMet l yX4_separates cX4_separates 3 (some .boolean) rX4_separates kX4_separates := zMet_of (by decide) ⟨rfl, rfl⟩ (oX4_separates l) (fun as0 st0 P h => by
  obtain ⟨S, u, v, a, b, c, σ, h0, h1, h2, h3, h4, h5, rfl, rfl, hz⟩ := h
  exact ⟨Nat.le_of_ble_eq_true rfl, fun Z hZ => wX4_separates eX4_holds h0 h1 h2 h3 h4 h5 hz hZ⟩)

def okLim (x : Int32) : Bool := decide (0 ≤ x ∧ x ≤ 20000)
/-- isLimit(x) -/
def kX4_isLimit : zK := fun as0 st0 P => ∃ x : Int32, ∃ σ : zS, as0 = [.inl x] ∧ st0 = σ ∧ (P (some (.inl (b2i (okLim x)))) σ)
def iX4_isLimit (C0 : zK) : Prop := ∀ {x : Int32} {σ : zS} {P : zP}, (P (some (.inl (b2i (okLim x)))) σ) → C0 [.inl x] (σ) P
theorem eX4_isLimit : iX4_isLimit kX4_isLimit := by
  intro x σ P  hz
  exact ⟨x, σ, rfl, rfl, hz⟩
theorem oX4_isLimit (l : Launch) : zOK l RX4 cX4_isLimit rX4_isLimit (some .boolean) (tX4_isLimit, fX4, gX4, [], [], 2) := ⟨tX4_isLimit_ok, fX4_ok, gX4_ok, fun _ h => absurd h List.not_mem_nil, by decide +kernel, rfl⟩
set_option maxRecDepth 100000 in
set_option maxHeartbeats 4000000 in
theorem wX4_isLimit {x : Int32} {σ : zS} {P : zP} (hp : P (some (.inl (b2i (okLim x)))) σ) {Z : zH} (hZ : zcl (tX4_isLimit, fX4, gX4, [], [], 2) P Z) : Z (σ) 0 [some (.inl x)] [] := by
  refine hZ [] 20 _ _ _ _ ?_
  refine And.intro (fun c => ?_) (fun c => ?_)
  · refine And.intro (Or.inl rfl) ?_
    have e : okLim x = false := by rw [okLim, decide_eq_false_iff_not]; exact fun q => Int32.not_le.mpr c q.1
    rw [e] at hp
    exact hp
  · refine And.intro (fun c2 => ?_) (fun c2 => ?_)
    · refine And.intro (Or.inl rfl) ?_
      have e : okLim x = false := by rw [okLim, decide_eq_false_iff_not]; exact fun q => Int32.not_le.mpr c2 q.2
      rw [e] at hp
      exact hp
    · refine And.intro (Or.inr rfl) ?_
      have e : okLim x = true := by rw [okLim, decide_eq_true_eq]; exact ⟨Int32.not_lt.mp c, Int32.not_lt.mp c2⟩
      rw [e] at hp
      exact hp
theorem zX4_isLimit (l : Launch) : zMet l yX4_isLimit cX4_isLimit 1 (some .boolean) rX4_isLimit kX4_isLimit := zMet_of (by decide) ⟨rfl, rfl⟩ (oX4_isLimit l) (fun as0 st0 P h => by
  obtain ⟨x, σ, rfl, rfl, hz⟩ := h
  exact ⟨Nat.le_of_ble_eq_true rfl, fun Z hZ => wX4_isLimit hz hZ⟩)


