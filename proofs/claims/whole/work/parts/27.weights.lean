/-! THE REFERENCE: pairs, weights of sets, the near cut. -/
/-- pairs counted below the diagonal -/
def eb (K : Nat → Nat → Nat) (u v : Nat) : Nat := if 0 < K u v then 1 else 0
theorem edg_eq {n : Nat} {K : Nat → Nat → Nat} (hs : ∀ i j, K i j = K j i) : sm (fun u => sm (fun v => eb K u v) u) n = edg n K := by
  have key : ∀ m, sm (fun u => sm (fun v => eb K u v) u) m = sm (fun u => sm (fun v => ea K u v) m) m := by
    intro m
    induction m with
    | zero => rfl
    | succ m ih =>
      have e1 : sm (fun u => sm (fun v => ea K u v) (m + 1)) (m + 1) = sm (fun u => sm (fun v => ea K u v) m) m + sm (fun u => ea K u m) m + (sm (fun v => ea K m v) m + ea K m m) := by
        rw [sm, ← sm_add]; rfl
      have e2 : sm (fun v => ea K m v) m = 0 := sm_zero (fun i hi => by simp [ea, show ¬ m < i by omega])
      have e3 : ea K m m = 0 := by simp [ea]
      have e4 : sm (fun u => ea K u m) m = sm (fun v => eb K m v) m := sm_congr (fun i hi => by simp [ea, eb, hi, hs i m])
      rw [e1, e2, e3, e4, sm, ih]
      omega
  exact key n
/-- pairs() -/
def kX5_pairs : zK := fun as0 st0 P => ∃ yn : Int32, ∃ ycap : Nat → Int32, ∃ ych : Int32, ∃ ycf : Nat → Int32, ∃ yct : Nat → Int32, ∃ ycw : Nat → Int32, ∃ yfl : Int32, ∃ ysd : Int32, ∃ ypa : Nat → Int32, ∃ yla : Nat → Int32, ∃ ybw : Nat → Int32, ∃ ywo : Nat → Int32, ∃ yns : Int32, ∃ ynw : Int32, ∃ n : Nat, ∃ K : Nat → Nat → Nat, (mG yn ycap n K) ∧ as0 = [.inr (.inl 0)] ∧ st0 = (MW yn ycap ych ycf yct ycw yfl ysd ypa yla ybw ywo yns ynw) ∧ (P (some (.inl (nI (edg n K)))) (MW yn ycap ych ycf yct ycw yfl ysd ypa yla ybw ywo yns ynw))
def iX5_pairs (C0 : zK) : Prop := ∀ {yn : Int32} {ycap : Nat → Int32} {ych : Int32} {ycf : Nat → Int32} {yct : Nat → Int32} {ycw : Nat → Int32} {yfl : Int32} {ysd : Int32} {ypa : Nat → Int32} {yla : Nat → Int32} {ybw : Nat → Int32} {ywo : Nat → Int32} {yns : Int32} {ynw : Int32} {n : Nat} {K : Nat → Nat → Nat} {P : zP}, (mG yn ycap n K) → (P (some (.inl (nI (edg n K)))) (MW yn ycap ych ycf yct ycw yfl ysd ypa yla ybw ywo yns ynw)) → C0 [.inr (.inl 0)] ((MW yn ycap ych ycf yct ycw yfl ysd ypa yla ybw ywo yns ynw)) P
theorem eX5_pairs : iX5_pairs kX5_pairs := by
  intro yn ycap ych ycf yct ycw yfl ysd ypa yla ybw ywo yns ynw n K P h0 hz
  exact ⟨yn, ycap, ych, ycf, yct, ycw, yfl, ysd, ypa, yla, ybw, ywo, yns, ynw, n, K, h0, rfl, rfl, hz⟩
theorem oX5_pairs (l : Launch) : zOK l RX5 cX5_pairs rX5_pairs (some .int) (tX5_pairs, fX5, gX5, [], [], 1) := ⟨tX5_pairs_ok, fX5_ok, gX5_ok, fun _ h => absurd h List.not_mem_nil, by decide +kernel, rfl⟩
set_option maxRecDepth 100000 in
set_option maxHeartbeats 4000000 in
theorem wX5_pairs {yn : Int32} {ycap : Nat → Int32} {ych : Int32} {ycf : Nat → Int32} {yct : Nat → Int32} {ycw : Nat → Int32} {yfl : Int32} {ysd : Int32} {ypa : Nat → Int32} {yla : Nat → Int32} {ybw : Nat → Int32} {ywo : Nat → Int32} {yns : Int32} {ynw : Int32} {n : Nat} {K : Nat → Nat → Nat} {P : zP} (hG : mG yn ycap n K) (hp : P (some (.inl (nI (edg n K)))) (MW yn ycap ych ycf yct ycw yfl ysd ypa yla ybw ywo yns ynw)) {Z : zH} (hZ : zcl (tX5_pairs, fX5, gX5, [], [], 1) P Z) : Z ((MW yn ycap ych ycf yct ycw yfl ysd ypa yla ybw ywo yns ynw)) 0 [some (.inr (.inl 0)), none, none, none] [] := by
  obtain ⟨rfl, hn1, hn2, hcap, hK⟩ := hG
  rw [← edg_eq hK.2.1] at hp
  have outer : ∀ u, u ≤ n → ∀ o, Z (MW (nI n) ycap ych ycf yct ycw yfl ysd ypa yla ybw ywo yns ynw) 4 [some (.inr (.inl 0)), some (.inl (nI (sm (fun u => sm (fun v => eb K u v) u) u))), some (.inl (nI u)), o] [] := by
    refine dn (Q := fun u => ∀ o, Z (MW (nI n) ycap ych ycf yct ycw yfl ysd ypa yla ybw ywo yns ynw) 4 [some (.inr (.inl 0)), some (.inl (nI (sm (fun u => sm (fun v => eb K u v) u) u))), some (.inl (nI u)), o] []) ?_ ?_
    · intro o
      refine hZ [] 40 _ _ _ _ ?_
      exact pk_le n n (fun _ => hp) (fun c => absurd c (by omega))
    · intro u hu ih o
      have inner : ∀ v, v ≤ u → Z (MW (nI n) ycap ych ycf yct ycw yfl ysd ypa yla ybw ywo yns ynw) 14 [some (.inr (.inl 0)), some (.inl (nI (sm (fun u => sm (fun v => eb K u v) u) u + sm (fun v => eb K u v) v))), some (.inl (nI u)), some (.inl (nI v))] [] := by
        refine dn (Q := fun v => Z (MW (nI n) ycap ych ycf yct ycw yfl ysd ypa yla ybw ywo yns ynw) 14 [some (.inr (.inl 0)), some (.inl (nI (sm (fun u => sm (fun v => eb K u v) u) u + sm (fun v => eb K u v) v))), some (.inl (nI u)), some (.inl (nI v))] []) ?_ ?_
        · refine hZ [4] 40 _ _ _ _ ?_
          refine pk_le u u (fun _ => ?_) (fun c => absurd c (by omega))
          have h9 := ih (some (.inl (nI u)))
          rw [nI_succ u] at h9
          exact h9
        · intro v hv h9
          refine hZ [14] 40 _ _ _ _ ?_
          refine pk_le u v (fun c => absurd c (by omega)) (fun _ => ?_)
          refine And.intro (by rw [ix12]; exact in144 (by omega)) ?_
          rw [ix12, cl144 (by omega), hcap u v (by omega) (by omega)]
          have hk := hK.1 u v
          refine pk_le (K u v) 0 (fun c => ?_) (fun c => ?_)
          · rw [sm, show eb K u v = 0 from if_neg (by omega), ← Nat.add_assoc, ← nI_add, nI_succ v] at h9
            exact h9
          · rw [sm, show eb K u v = 1 from if_pos c, ← Nat.add_assoc, ← nI_add, nI_succ v] at h9
            exact h9
      refine hZ [14] 40 _ _ _ _ ?_
      refine pk_le n u (fun c => absurd c (by omega)) (fun _ => ?_)
      exact inner 0 (by omega)
  refine hZ [4] 40 _ _ _ _ ?_
  exact outer 0 (by omega) none
theorem zX5_pairs (l : Launch) : zMet l yX5_pairs cX5_pairs 4 (some .int) rX5_pairs kX5_pairs := zMet_of (by decide) ⟨rfl, rfl⟩ (oX5_pairs l) (fun as0 st0 P h => by
  obtain ⟨yn, ycap, ych, ycf, yct, ycw, yfl, ysd, ypa, yla, ybw, ywo, yns, ynw, n, K, h0, rfl, rfl, hz⟩ := h
  exact ⟨Nat.le_of_ble_eq_true rfl, fun Z hZ => wX5_pairs h0 hz hZ⟩)

/-- weigh(S) -/
def kX5_weigh : zK := fun as0 st0 P => ∃ yn : Int32, ∃ ycap : Nat → Int32, ∃ ych : Int32, ∃ ycf : Nat → Int32, ∃ yct : Nat → Int32, ∃ ycw : Nat → Int32, ∃ yfl : Int32, ∃ ysd : Int32, ∃ ypa : Nat → Int32, ∃ yla : Nat → Int32, ∃ ybw : Nat → Int32, ∃ ywo : Nat → Int32, ∃ yns : Int32, ∃ ynw : Int32, ∃ n : Nat, ∃ K : Nat → Nat → Nat, ∃ S : Nat, ∃ a : Int32, (mG yn ycap n K) ∧ (a = nI S) ∧ (S < 2 ^ 31) ∧ as0 = [.inr (.inl 0), .inl a] ∧ st0 = (MW yn ycap ych ycf yct ycw yfl ysd ypa yla ybw ywo yns ynw) ∧ (P (some (.inl (nI (wt n K S)))) (MW yn ycap ych ycf yct ycw yfl ysd ypa yla ybw ywo yns ynw))
def iX5_weigh (C0 : zK) : Prop := ∀ {yn : Int32} {ycap : Nat → Int32} {ych : Int32} {ycf : Nat → Int32} {yct : Nat → Int32} {ycw : Nat → Int32} {yfl : Int32} {ysd : Int32} {ypa : Nat → Int32} {yla : Nat → Int32} {ybw : Nat → Int32} {ywo : Nat → Int32} {yns : Int32} {ynw : Int32} {n : Nat} {K : Nat → Nat → Nat} {S : Nat} {a : Int32} {P : zP}, (mG yn ycap n K) → (a = nI S) → (S < 2 ^ 31) → (P (some (.inl (nI (wt n K S)))) (MW yn ycap ych ycf yct ycw yfl ysd ypa yla ybw ywo yns ynw)) → C0 [.inr (.inl 0), .inl a] ((MW yn ycap ych ycf yct ycw yfl ysd ypa yla ybw ywo yns ynw)) P
theorem eX5_weigh : iX5_weigh kX5_weigh := by
  intro yn ycap ych ycf yct ycw yfl ysd ypa yla ybw ywo yns ynw n K S a P h0 h1 h2 hz
  exact ⟨yn, ycap, ych, ycf, yct, ycw, yfl, ysd, ypa, yla, ybw, ywo, yns, ynw, n, K, S, a, h0, h1, h2, rfl, rfl, hz⟩
theorem oX5_weigh (l : Launch) : zOK l RX5 cX5_weigh rX5_weigh (some .int) (tX5_weigh, fX5, gX5, [(71, 2, 100, kX5_isIn)], [], 1) := ⟨tX5_weigh_ok, fX5_ok, gX5_ok, List.forall_mem_cons.mpr ⟨⟨yX5_isIn, cX5_isIn, 2, (some .boolean), rX5_isIn, zX5_isIn l, by decide +kernel, ykX5_isIn, lkX5_71⟩, fun _ h => absurd h List.not_mem_nil⟩, by decide +kernel, rfl⟩
set_option maxRecDepth 100000 in
set_option maxHeartbeats 4000000 in
theorem wX5_weigh {CX5_isIn : zK} (HX5_isIn : iX5_isIn CX5_isIn) {yn : Int32} {ycap : Nat → Int32} {ych : Int32} {ycf : Nat → Int32} {yct : Nat → Int32} {ycw : Nat → Int32} {yfl : Int32} {ysd : Int32} {ypa : Nat → Int32} {yla : Nat → Int32} {ybw : Nat → Int32} {ywo : Nat → Int32} {yns : Int32} {ynw : Int32} {n : Nat} {K : Nat → Nat → Nat} {S : Nat} {a : Int32} {P : zP} (hG : mG yn ycap n K) (ha : a = nI S) (hS : S < 2 ^ 31) (hp : P (some (.inl (nI (wt n K S)))) (MW yn ycap ych ycf yct ycw yfl ysd ypa yla ybw ywo yns ynw)) {Z : zH} (hZ : zcl (tX5_weigh, fX5, gX5, [(71, 2, 100, CX5_isIn)], [], 1) P Z) : Z ((MW yn ycap ych ycf yct ycw yfl ysd ypa yla ybw ywo yns ynw)) 0 [some (.inr (.inl 0)), some (.inl a), none, none, none] [] := by
  obtain ⟨rfl, hn1, hn2, hcap, hK⟩ := hG
  have outer : ∀ u, u ≤ n → ∀ o, Z (MW (nI n) ycap ych ycf yct ycw yfl ysd ypa yla ybw ywo yns ynw) 4 [some (.inr (.inl 0)), some (.inl a), some (.inl (nI (sm (fun u => sm (fun v => wa K S u v) n) u))), some (.inl (nI u)), o] [] := by
    refine dn (Q := fun u => ∀ o, Z (MW (nI n) ycap ych ycf yct ycw yfl ysd ypa yla ybw ywo yns ynw) 4 [some (.inr (.inl 0)), some (.inl a), some (.inl (nI (sm (fun u => sm (fun v => wa K S u v) n) u))), some (.inl (nI u)), o] []) ?_ ?_
    · intro o
      refine hZ [] 40 _ _ _ _ ?_
      exact pk_le n n (fun _ => hp) (fun c => absurd c (by omega))
    · intro u hu ih o
      have inner : ∀ v, v ≤ n → Z (MW (nI n) ycap ych ycf yct ycw yfl ysd ypa yla ybw ywo yns ynw) 15 [some (.inr (.inl 0)), some (.inl a), some (.inl (nI (sm (fun u => sm (fun v => wa K S u v) n) u + sm (fun v => wa K S u v) v))), some (.inl (nI u)), some (.inl (nI v))] [] := by
        refine dn (Q := fun v => Z (MW (nI n) ycap ych ycf yct ycw yfl ysd ypa yla ybw ywo yns ynw) 15 [some (.inr (.inl 0)), some (.inl a), some (.inl (nI (sm (fun u => sm (fun v => wa K S u v) n) u + sm (fun v => wa K S u v) v))), some (.inl (nI u)), some (.inl (nI v))] []) ?_ ?_
        · refine hZ [4] 40 _ _ _ _ ?_
          refine pk_le n n (fun _ => ?_) (fun c => absurd c (by omega))
          have h9 := ih (some (.inl (nI n)))
          rw [nI_succ u] at h9
          exact h9
        · intro v hv h9
          have no : wa K S u v = 0 → Z (MW (nI n) ycap ych ycf yct ycw yfl ysd ypa yla ybw ywo yns ynw) 15 [some (.inr (.inl 0)), some (.inl a), some (.inl (nI (sm (fun u => sm (fun v => wa K S u v) n) u + sm (fun v => wa K S u v) v) + nI 0)), some (.inl (nI u)), some (.inl (nI v + 1))] [] := by
            intro e
            rw [sm, e, ← Nat.add_assoc, ← nI_add, nI_succ v] at h9
            exact h9
          refine hZ [15] 60 _ _ _ _ ?_
          refine pk_le n v (fun c => absurd c (by omega)) (fun _ => ?_)
          refine HX5_isIn ha rfl hS (by omega) ?_
          refine bz (fun h1 => ?_) (fun h1 => ?_)
          · exact no (by simp [wa, h1])
          · refine HX5_isIn ha rfl hS (by omega) ?_
            refine bn (fun h2 => ?_) (fun h2 => ?_)
            · exact no (by simp [wa, h2])
            · refine And.intro (by rw [ix12]; exact in144 (by omega)) ?_
              rw [ix12, cl144 (by omega), hcap u v (by omega) (by omega)]
              rw [sm, show wa K S u v = K u v from if_pos (by rw [h1, h2]; rfl), ← Nat.add_assoc, ← nI_add, nI_succ v] at h9
              exact h9
      refine hZ [15] 40 _ _ _ _ ?_
      refine pk_le n u (fun c => absurd c (by omega)) (fun _ => ?_)
      exact inner 0 (by omega)
  refine hZ [4] 40 _ _ _ _ ?_
  exact outer 0 (by omega) none
theorem zX5_weigh (l : Launch) : zMet l yX5_weigh cX5_weigh 5 (some .int) rX5_weigh kX5_weigh := zMet_of (by decide) ⟨rfl, rfl⟩ (oX5_weigh l) (fun as0 st0 P h => by
  obtain ⟨yn, ycap, ych, ycf, yct, ycw, yfl, ysd, ypa, yla, ybw, ywo, yns, ynw, n, K, S, a, h0, h1, h2, rfl, rfl, hz⟩ := h
  exact ⟨Nat.le_of_ble_eq_true rfl, fun Z hZ => wX5_weigh eX5_isIn h0 h1 h2 hz hZ⟩)

/-- the lowest node of a set -/
def low (S l : Nat) : Prop := S.testBit l = true ∧ ∀ j, j < l → S.testBit j = false
theorem low_rest {S l : Nat} (h : low S l) (k : Nat) : (S &&& (S - 1)).testBit k = (S.testBit k && decide (k ≠ l)) := by
  have hm : S % 2 ^ (l + 1) = 2 ^ l := by
    apply Nat.eq_of_testBit_eq
    intro i
    rw [Nat.testBit_mod_two_pow, Nat.testBit_two_pow]
    by_cases e : i = l
    · subst e; simp [h.1]
    · by_cases q : i < l
      · simp [h.2 i q, Ne.symm e]
      · simp [show ¬ i < l + 1 by omega, Ne.symm e]
  obtain ⟨m, e1⟩ : ∃ m, S = 2 ^ (l + 1) * m + 2 ^ l := ⟨S / 2 ^ (l + 1), by rw [← hm]; exact (Nat.div_add_mod S _).symm⟩
  have hp : 1 ≤ 2 ^ l := Nat.one_le_two_pow
  have hp2 : 2 ^ (l + 1) = 2 * 2 ^ l := by rw [Nat.pow_succ, Nat.mul_comm]
  have e2 : S - 1 = 2 ^ (l + 1) * m + (2 ^ l - 1) := by omega
  have b1 : S.testBit k = if k < l + 1 then (2 ^ l).testBit k else m.testBit (k - (l + 1)) := by
    conv => lhs; rw [e1]
    exact Nat.testBit_two_pow_mul_add m (by omega) k
  have b2 : (S - 1).testBit k = if k < l + 1 then (2 ^ l - 1).testBit k else m.testBit (k - (l + 1)) := by
    conv => lhs; rw [e2]
    exact Nat.testBit_two_pow_mul_add m (by omega) k
  rw [Nat.testBit_and, b1, b2]
  by_cases q : k < l + 1
  · rw [if_pos q, if_pos q, Nat.testBit_two_pow, Nat.testBit_two_pow_sub_one]
    by_cases e : k = l
    · subst e; simp
    · simp [Ne.symm e]
  · rw [if_neg q, if_neg q]
    simp [show k ≠ l by omega]
theorem low_lt {S l : Nat} (h : low S l) : S &&& (S - 1) < S := by
  have h1 : S &&& (S - 1) ≤ S := Nat.and_le_left
  rcases Nat.lt_or_ge (S &&& (S - 1)) S with q | q
  · exact q
  · have e : S &&& (S - 1) = S := by omega
    have := low_rest h l
    rw [e, h.1] at this
    simp at this
theorem low_ex {S : Nat} (h : 0 < S) : ∃ l, low S l := by
  obtain ⟨i, hi⟩ := Nat.exists_testBit_of_ne_zero (by omega : S ≠ 0)
  obtain ⟨l, hl, hmin⟩ := pk_least (fun l => S.testBit l = true) ⟨i, hi⟩
  exact ⟨l, hl, fun j hj => by
    cases e : S.testBit j with
    | false => rfl
    | true => exact absurd e (hmin j hj)⟩
/-- what goes from l to the nodes in a set, and to those outside -/
def wIn (K : Nat → Nat → Nat) (R l v : Nat) : Nat := if R.testBit v = true then K l v else 0
def wOut (K : Nat → Nat → Nat) (R l v : Nat) : Nat := if R.testBit v = true then 0 else K l v
/-- a node more in a set -/
theorem wt_add {n l R S : Nat} {K : Nat → Nat → Nat} (hs : ∀ i j, K i j = K j i) (h0 : ∀ i, K i i = 0) (hl : l < n) (hR : R.testBit l = false) (hS : ∀ k, S.testBit k = (R.testBit k || decide (k = l))) : wt n K S + sm (fun v => wIn K R l v) n = wt n K R + sm (fun v => wOut K R l v) n := by
  have row : ∀ u, u ≠ l → sm (fun v => wa K S u v) n + wIn K R l u = sm (fun v => wa K R u v) n := by
    intro u hu
    have e : ∀ v, wa K S u v = if v = l then 0 else wa K R u v := fun v => by
      unfold wa
      rw [hS u, hS v]
      by_cases ev : v = l
      · subst ev; simp
      · simp [hu, ev]
    rw [sm_congr (fun v _ => e v)]
    have h1 := sm_up (fun v => wa K R u v) l 0 n hl
    have h2 : wa K R u l = wIn K R l u := by
      unfold wa wIn
      rw [hR, hs l u]
      cases R.testBit u <;> simp
    omega
  have rowl : sm (fun v => wa K S l v) n = sm (fun v => wOut K R l v) n := sm_congr (fun v _ => by
    unfold wa wOut
    rw [hS l, hS v]
    by_cases ev : v = l
    · subst ev; simp [hR, h0]
    · cases R.testBit v <;> simp [ev])
  have rowl0 : sm (fun v => wa K R l v) n = 0 := sm_zero (fun v _ => by simp [wa, hR])
  have inl : wIn K R l l = 0 := by simp [wIn, hR]
  have t1 : sm (fun u => sm (fun v => wa K S u v) n) n + sm (fun v => wIn K R l v) n = sm (fun u => sm (fun v => wa K S u v) n + wIn K R l u) n := (sm_add _ _ _).symm
  have t2 : sm (fun u => sm (fun v => wa K S u v) n + wIn K R l u) n = sm (fun u => if u = l then sm (fun v => wOut K R l v) n else sm (fun v => wa K R u v) n) n := sm_congr (fun u _ => by
    by_cases e : u = l
    · subst e; rw [if_pos rfl, rowl, inl]; rfl
    · rw [if_neg e]; exact row u e)
  have t3 := sm_up (fun u => sm (fun v => wa K R u v) n) l (sm (fun v => wOut K R l v) n) n hl
  unfold wt
  omega
theorem i32_a (a b c : Int32) : a - b + -c = a - (b + c) := by
  apply Int32.toBitVec_inj.mp
  simp only [Int32.toBitVec_add, Int32.toBitVec_sub, Int32.toBitVec_neg]
  bv_omega
theorem i32_b (a b c : Int32) : a - b + c = (a + c) - b := by
  apply Int32.toBitVec_inj.mp
  simp only [Int32.toBitVec_add, Int32.toBitVec_sub]
  bv_omega
theorem in4096 {u : Nat} (h : u < 4096) : vp_in (nI u) 4096 := vp_in_nI h (by omega)
theorem cl4096 {u : Nat} (h : u < 4096) : (nI u).toNatClampNeg = u := nI_clamp (by omega)
/-- layWeights() -/
def kX5_layWeights : zK := fun as0 st0 P => ∃ yn : Int32, ∃ ycap : Nat → Int32, ∃ ych : Int32, ∃ ycf : Nat → Int32, ∃ yct : Nat → Int32, ∃ ycw : Nat → Int32, ∃ yfl : Int32, ∃ ysd : Int32, ∃ ypa : Nat → Int32, ∃ yla : Nat → Int32, ∃ ybw : Nat → Int32, ∃ ywo : Nat → Int32, ∃ yns : Int32, ∃ ynw : Int32, ∃ n : Nat, ∃ K : Nat → Nat → Nat, (mG yn ycap n K) ∧ as0 = [.inr (.inl 0)] ∧ st0 = (MW yn ycap ych ycf yct ycw yfl ysd ypa yla ybw ywo yns ynw) ∧ (∀ wo', (∀ S, S < 2 ^ n → wo' S = nI (wt n K S)) → P none (MW yn ycap ych ycf yct ycw yfl ysd ypa yla ybw (wo') yns ynw))
def iX5_layWeights (C0 : zK) : Prop := ∀ {yn : Int32} {ycap : Nat → Int32} {ych : Int32} {ycf : Nat → Int32} {yct : Nat → Int32} {ycw : Nat → Int32} {yfl : Int32} {ysd : Int32} {ypa : Nat → Int32} {yla : Nat → Int32} {ybw : Nat → Int32} {ywo : Nat → Int32} {yns : Int32} {ynw : Int32} {n : Nat} {K : Nat → Nat → Nat} {P : zP}, (mG yn ycap n K) → (∀ wo', (∀ S, S < 2 ^ n → wo' S = nI (wt n K S)) → P none (MW yn ycap ych ycf yct ycw yfl ysd ypa yla ybw (wo') yns ynw)) → C0 [.inr (.inl 0)] ((MW yn ycap ych ycf yct ycw yfl ysd ypa yla ybw ywo yns ynw)) P
theorem eX5_layWeights : iX5_layWeights kX5_layWeights := by
  intro yn ycap ych ycf yct ycw yfl ysd ypa yla ybw ywo yns ynw n K P h0 hz
  exact ⟨yn, ycap, ych, ycf, yct, ycw, yfl, ysd, ypa, yla, ybw, ywo, yns, ynw, n, K, h0, rfl, rfl, hz⟩
theorem oX5_layWeights (l : Launch) : zOK l RX5 cX5_layWeights rX5_layWeights none (tX5_layWeights, fX5, gX5, [(75, 0, 5, kX5_full), (71, 2, 100, kX5_isIn)], [], 0) := ⟨tX5_layWeights_ok, fX5_ok, gX5_ok, List.forall_mem_cons.mpr ⟨⟨yX5_full, cX5_full, 1, (some .int), rX5_full, zX5_full l, by decide +kernel, ykX5_full, lkX5_75⟩, List.forall_mem_cons.mpr ⟨⟨yX5_isIn, cX5_isIn, 2, (some .boolean), rX5_isIn, zX5_isIn l, by decide +kernel, ykX5_isIn, lkX5_71⟩, fun _ h => absurd h List.not_mem_nil⟩⟩, by decide +kernel, rfl⟩
set_option maxRecDepth 100000 in
set_option maxHeartbeats 4000000 in
theorem wX5_layWeights {CX5_full : zK} (HX5_full : iX5_full CX5_full) {CX5_isIn : zK} (HX5_isIn : iX5_isIn CX5_isIn) {yn : Int32} {ycap : Nat → Int32} {ych : Int32} {ycf : Nat → Int32} {yct : Nat → Int32} {ycw : Nat → Int32} {yfl : Int32} {ysd : Int32} {ypa : Nat → Int32} {yla : Nat → Int32} {ybw : Nat → Int32} {ywo : Nat → Int32} {yns : Int32} {ynw : Int32} {n : Nat} {K : Nat → Nat → Nat} {P : zP} (hG : mG yn ycap n K) (hp : ∀ wo', (∀ S, S < 2 ^ n → wo' S = nI (wt n K S)) → P none (MW yn ycap ych ycf yct ycw yfl ysd ypa yla ybw (wo') yns ynw)) {Z : zH} (hZ : zcl (tX5_layWeights, fX5, gX5, [(75, 0, 5, CX5_full), (71, 2, 100, CX5_isIn)], [], 0) P Z) : Z ((MW yn ycap ych ycf yct ycw yfl ysd ypa yla ybw ywo yns ynw)) 0 [some (.inr (.inl 0)), none, none, none, none, none] [] := by
  obtain ⟨rfl, hn1, hn2, hcap, hK⟩ := hG
  have p12n := p12 hn2
  have p4 := p12' hn1
  have outer : ∀ S, S ≤ 2 ^ n → 0 < S → ∀ (wo' : Nat → Int32) (o2 o3 o4 o5 : Option zV), (∀ T, T < S → wo' T = nI (wt n K T)) → Z (MW (nI n) ycap ych ycf yct ycw yfl ysd ypa yla ybw (wo') yns ynw) 9 [some (.inr (.inl 0)), some (.inl (nI S)), o2, o3, o4, o5] [] := by
    refine dn (Q := fun S => 0 < S → ∀ (wo' : Nat → Int32) (o2 o3 o4 o5 : Option zV), (∀ T, T < S → wo' T = nI (wt n K T)) → Z (MW (nI n) ycap ych ycf yct ycw yfl ysd ypa yla ybw (wo') yns ynw) 9 [some (.inr (.inl 0)), some (.inl (nI S)), o2, o3, o4, o5] []) ?_ ?_
    · intro _ wo' o2 o3 o4 o5 h
      refine hZ [] 40 _ _ _ _ ?_
      refine HX5_full rfl hn2 ?_
      exact pk_lt (2 ^ n - 1) (2 ^ n) (fun _ => hp wo' h) (fun c => absurd c (by omega))
    · intro S hS ih hS0 wo' o2 o3 o4 o5 h
      obtain ⟨l, hl⟩ := low_ex hS0
      have hln : l < n := lt_of_bit hS hl.1
      have hrest := low_lt hl
      have hbits := low_rest hl
      obtain ⟨S', hS'⟩ : ∃ S', S = S' + 1 := ⟨S - 1, by omega⟩
      have erest : nI S &&& (nI S - 1) = nI (S &&& (S - 1)) := by
        conv => lhs; rw [hS', nI_pred, bI_and]
        rw [hS', Nat.add_sub_cancel]
      generalize hRe : S &&& (S - 1) = R at hrest hbits erest
      have hRl : R.testBit l = false := by rw [hbits l]; simp
      have hSR : ∀ k, S.testBit k = (R.testBit k || decide (k = l)) := fun k => by
        rw [hbits k]
        by_cases e : k = l
        · subst e; simp [hl.1]
        · simp [e]
      have hsum := wt_add hK.2.1 hK.2.2.1 hln hRl hSR
      have b1 := wt_bound hK.1 hn2 S
      have b2 := wt_bound hK.1 hn2 R
      have inner : ∀ v, v ≤ n → Z (MW (nI n) ycap ych ycf yct ycw yfl ysd ypa yla ybw (wo') yns ynw) 50 [some (.inr (.inl 0)), some (.inl (nI S)), some (.inl (nI R)), some (.inl (nI l)), some (.inl (nI (wt n K R + sm (fun v => wOut K R l v) v) - nI (sm (fun v => wIn K R l v) v))), some (.inl (nI v))] [] := by
        refine dn (Q := fun v => Z (MW (nI n) ycap ych ycf yct ycw yfl ysd ypa yla ybw (wo') yns ynw) 50 [some (.inr (.inl 0)), some (.inl (nI S)), some (.inl (nI R)), some (.inl (nI l)), some (.inl (nI (wt n K R + sm (fun v => wOut K R l v) v) - nI (sm (fun v => wIn K R l v) v))), some (.inl (nI v))] []) ?_ ?_
        · refine hZ [9] 40 _ _ _ _ ?_
          refine pk_le n n (fun _ => ?_) (fun c => absurd c (by omega))
          refine And.intro (in4096 (by omega)) ?_
          rw [cl4096 (by omega)]
          have efin : nI (wt n K R + sm (fun v => wOut K R l v) n) - nI (sm (fun v => wIn K R l v) n) = nI (wt n K S) := by
            rw [pk_sub (by omega)]
            congr 1
            omega
          rw [efin]
          have h9 := ih (by omega) (upd wo' S (nI (wt n K S))) (some (.inl (nI R))) (some (.inl (nI l))) (some (.inl (nI (wt n K S)))) (some (.inl (nI n))) (fun T hT => by
            by_cases e : T = S
            · subst e; rw [pk_us]
            · rw [pk_un e]; exact h T (by omega))
          rw [nI_succ S] at h9
          exact h9
        · intro v hv h9
          refine hZ [50] 60 _ _ _ _ ?_
          refine pk_le n v (fun c => absurd c (by omega)) (fun _ => ?_)
          refine HX5_isIn rfl rfl (by omega) (by omega) ?_
          refine bz (fun hb => ?_) (fun hb => ?_)
          · refine And.intro (by rw [ix12]; exact in144 (by omega)) ?_
            rw [ix12, cl144 (by omega), hcap l v (by omega) (by omega)]
            rw [sm, sm, show wOut K R l v = K l v from if_neg (by rw [hb]; decide), show wIn K R l v = 0 from if_neg (by rw [hb]; decide), Nat.add_zero, ← Nat.add_assoc, ← nI_add, ← i32_b, nI_succ v] at h9
            exact h9
          · refine And.intro (by rw [ix12]; exact in144 (by omega)) ?_
            rw [ix12, cl144 (by omega), hcap l v (by omega) (by omega)]
            rw [sm, sm, show wOut K R l v = 0 from if_pos hb, show wIn K R l v = K l v from if_pos hb, Nat.add_zero, ← nI_add (sm (fun v => wIn K R l v) v), ← i32_a, nI_succ v] at h9
            exact h9
      have find : ∀ j, j ≤ l → ∀ o4 o5, Z (MW (nI n) ycap ych ycf yct ycw yfl ysd ypa yla ybw (wo') yns ynw) 25 [some (.inr (.inl 0)), some (.inl (nI S)), some (.inl (nI R)), some (.inl (nI j)), o4, o5] [] := by
        refine dn (Q := fun j => ∀ o4 o5, Z (MW (nI n) ycap ych ycf yct ycw yfl ysd ypa yla ybw (wo') yns ynw) 25 [some (.inr (.inl 0)), some (.inl (nI S)), some (.inl (nI R)), some (.inl (nI j)), o4, o5] []) ?_ ?_
        · intro o4 o5
          refine hZ [50] 40 _ _ _ _ ?_
          refine HX5_isIn rfl rfl (by omega) (by omega) ?_
          refine bn (fun _ => ?_) (fun hb => by rw [hl.1] at hb; cases hb)
          refine And.intro (in4096 (by omega)) ?_
          rw [cl4096 (by omega), h R hrest]
          have h0 := inner 0 (by omega)
          have e0 : nI (wt n K R + sm (fun v => wOut K R l v) 0) - nI (sm (fun v => wIn K R l v) 0) = nI (wt n K R) := by
            show nI (wt n K R + 0) - nI 0 = _
            rw [pk_sub (by omega)]
            rfl
          rw [e0] at h0
          exact h0
        · intro j hj ih2 o4 o5
          refine hZ [25] 40 _ _ _ _ ?_
          refine HX5_isIn rfl rfl (by omega) (by omega) ?_
          refine bn (fun hb => by rw [hl.2 j hj] at hb; cases hb) (fun _ => ?_)
          have h9 := ih2 o4 o5
          rw [nI_succ j] at h9
          exact h9
      refine hZ [25] 40 _ _ _ _ ?_
      refine HX5_full rfl hn2 ?_
      refine pk_lt (2 ^ n - 1) S (fun c => absurd c (by omega)) (fun _ => ?_)
      have h9 := find 0 (by omega) o4 o5
      rw [← erest] at h9
      exact h9
  refine hZ [9] 40 _ _ _ _ ?_
  refine And.intro (in4096 (u := 0) (by omega)) ?_
  have e0 : (0 : Int32).toNatClampNeg = 0 := by decide
  rw [e0]
  refine outer 1 (by omega) (by omega) _ none none none none (fun T hT => ?_)
  obtain rfl : T = 0 := by omega
  rw [pk_us]
  have : wt n K 0 = 0 := wt_zero (fun u v _ _ h _ => by simp at h)
  rw [this]
  rfl
theorem zX5_layWeights (l : Launch) : zMet l yX5_layWeights cX5_layWeights 6 none rX5_layWeights kX5_layWeights := zMet_of (by decide) ⟨rfl, rfl⟩ (oX5_layWeights l) (fun as0 st0 P h => by
  obtain ⟨yn, ycap, ych, ycf, yct, ycw, yfl, ysd, ypa, yla, ybw, ywo, yns, ynw, n, K, h0, rfl, rfl, hz⟩ := h
  exact ⟨Nat.le_of_ble_eq_true rfl, fun Z hZ => wX5_layWeights eX5_full eX5_isIn h0 hz hZ⟩)

