/-! THE GENERATOR IS SOUND over the machine. -/
def zAll : List Cond := lw_tbl.filter goodWord
def zNW : List Cond := [.methodLinkNest RX2 34 ⟨RX4, "separates", "(III)Z"⟩ RX4, .methodLinkNest RX3 51 ⟨RX4, "only", "(I)I"⟩ RX4, .methodLinkNest RX3 55 ⟨RX4, "holds", "(II)Z"⟩ RX4, .methodLinkNest RX1 77 ⟨RX4, "holds", "(II)Z"⟩ RX4, .methodLinkNest RX1 89 ⟨RX4, "only", "(I)I"⟩ RX4, .methodLinkNest RX1 108 ⟨RX4, "separates", "(III)Z"⟩ RX4]
theorem zNW_in : ∀ w ∈ zNW, w ∈ lw_tbl := by decide +kernel
def zv (α : zA) : zV → Value
  | .inl x => .int x
  | .inr (.inl k) => .ref (α.1 k)
  | .inr (.inr q) => .ref (α.2.1 q.1 q.2)
theorem zv_cat (α : zA) (v : zV) : (zv α v).category = 1 := by
  rcases v with x | k | q <;> rfl
theorem zv_sum (α : zA) (l : List zV) : ((l.map (zv α)).map fun v => v.category).sum = l.length := by
  induction l with
  | nil => rfl
  | cons a l ih => simp only [List.map_cons, List.sum_cons, List.length_cons, ih, zv_cat]; omega
def zce (α : zA) (k : Nat) : zC → va_W
  | .inl o => [(α.1 k, .inr (o.1, o.2.map (zv α)))]
  | .inr (.inl a) => [(α.1 k, .inl (α.2.2.1, a.1, .inl a.2))]
  | .inr (.inr f) => (α.1 k, .inl (α.2.2.2, 12, .inr (.inr (.inr (.inr (fun i => if i < 12 then some (α.2.1 k i) else none)))))) :: (List.range 12).map (fun i => (α.2.1 k i, .inl (α.2.2.1, 12, .inl (f i))))
def zcs (α : zA) (o : Nat) : zS → va_W
  | [] => []
  | c :: r => zce α o c ++ zcs α (o + 1) r
abbrev zc (α : zA) (σ : zS) : va_W := zcs α 0 σ
abbrev zty (α : zA) : List (ClassId × FieldType) := [(α.2.2.1, .int), (α.2.2.2, .array .int)]
theorem zcs_get {α : zA} {c : zC} {x : Nat × va_E} {j : Nat} : ∀ (σ : zS) (o k : Nat), σ[k]? = some c → (zce α (o + k) c)[j]? = some x → ∃ q : Nat, (zcs α o σ)[q]? = some x
  | [], o, k, h, _ => by simp at h
  | d :: r, o, 0, h, hx => by
    simp at h; subst h
    rw [Nat.add_zero] at hx
    refine ⟨j, ?_⟩
    have hl := (List.getElem?_eq_some_iff.mp hx).1
    show (zce α o d ++ zcs α (o + 1) r)[j]? = some x
    rw [List.getElem?_append_left hl]
    exact hx
  | d :: r, o, k + 1, h, hx => by
    rw [List.getElem?_cons_succ] at h
    obtain ⟨q, hq⟩ := zcs_get r (o + 1) k h (by rw [show o + 1 + k = o + (k + 1) by omega]; exact hx)
    refine ⟨(zce α o d).length + q, ?_⟩
    show (zce α o d ++ zcs α (o + 1) r)[_]? = some x
    rw [List.getElem?_append_right (by omega), Nat.add_sub_cancel_left]
    exact hq
theorem zcs_set {α : zA} {c c' : zC} {x x' : Nat × va_E} {j : Nat} : ∀ (σ : zS) (o k : Nat), σ[k]? = some c → (zce α (o + k) c)[j]? = some x → zce α (o + k) c' = (zce α (o + k) c).set j x' → ∃ q : Nat, (zcs α o σ)[q]? = some x ∧ zcs α o (σ.set k c') = (zcs α o σ).set q x'
  | [], o, k, h, _, _ => by simp at h
  | d :: r, o, 0, h, hx, hs => by
    simp at h; subst h
    rw [Nat.add_zero] at hx hs
    have hl := (List.getElem?_eq_some_iff.mp hx).1
    refine ⟨j, ?_, ?_⟩
    · show (zce α o d ++ zcs α (o + 1) r)[j]? = some x
      rw [List.getElem?_append_left hl]
      exact hx
    · show zce α o c' ++ zcs α (o + 1) r = (zce α o d ++ zcs α (o + 1) r).set j x'
      rw [List.set_append_left _ _ hl]
      exact congrArg (· ++ zcs α (o + 1) r) hs
  | d :: r, o, k + 1, h, hx, hs => by
    rw [List.getElem?_cons_succ] at h
    have e : o + 1 + k = o + (k + 1) := by omega
    obtain ⟨q, hq, hq2⟩ := zcs_set r (o + 1) k h (by rw [e]; exact hx) (by rw [e]; exact hs)
    refine ⟨(zce α o d).length + q, ?_, ?_⟩
    · show (zce α o d ++ zcs α (o + 1) r)[_]? = some x
      rw [List.getElem?_append_right (by omega), Nat.add_sub_cancel_left]
      exact hq
    · show zce α o d ++ zcs α (o + 1) (r.set k c') = (zce α o d ++ zcs α (o + 1) r).set _ x'
      rw [List.set_append_right _ _ (by omega), Nat.add_sub_cancel_left, hq2]
theorem zc_get {α : zA} {c : zC} {x : Nat × va_E} {σ : zS} {k : Nat} (j : Nat) (h : σ[k]? = some c) (hx : (zce α k c)[j]? = some x) : ∃ q : Nat, (zc α σ)[q]? = some x := zcs_get σ 0 k h (by rw [Nat.zero_add]; exact hx)
theorem zc_set {α : zA} {c c' : zC} {x x' : Nat × va_E} {σ : zS} {k : Nat} (j : Nat) (h : σ[k]? = some c) (hx : (zce α k c)[j]? = some x) (hs : zce α k c' = (zce α k c).set j x') : ∃ q : Nat, (zc α σ)[q]? = some x ∧ zc α (σ.set k c') = (zc α σ).set q x' := zcs_set σ 0 k h (by rw [Nat.zero_add]; exact hx) (by rw [Nat.zero_add]; exact hs)
theorem zce_row {α : zA} {k i : Nat} {f : Nat → Nat → Int32} (hi : i < 12) : (zce α k (.inr (.inr f)))[i + 1]? = some (α.2.1 k i, .inl (α.2.2.1, 12, .inl (f i))) := by
  show ((α.1 k, _) :: (List.range 12).map _)[i + 1]? = _
  rw [List.getElem?_cons_succ, List.getElem?_map, List.getElem?_range hi]
  rfl
theorem zce_rowset {α : zA} {k i : Nat} {f : Nat → Nat → Int32} (g : Nat → Int32) (hi : i < 12) : zce α k (.inr (.inr (zup f i g))) = (zce α k (.inr (.inr f))).set (i + 1) (α.2.1 k i, .inl (α.2.2.1, 12, .inl g)) := by
  show (α.1 k, _) :: (List.range 12).map _ = ((α.1 k, _) :: (List.range 12).map _).set (i + 1) _
  rw [List.set_cons_succ]
  congr 1
  apply List.ext_getElem?
  intro j
  by_cases hj : j < 12
  · by_cases e : j = i
    · subst e
      rw [List.getElem?_set_self (by simpa using hj), List.getElem?_map, List.getElem?_range hj]
      simp [zup]
    · rw [List.getElem?_set_ne (Ne.symm e), List.getElem?_map, List.getElem?_map, List.getElem?_range hj]
      simp [zup, e]
  · rw [List.getElem?_eq_none (by simpa using hj), List.getElem?_eq_none (by simpa using hj)]
/-- the locals -/
def zlv (α : zA) (o : Nat) : List (Option zV) → List (Nat × Value)
  | [] => []
  | none :: r => zlv α (o + 1) r
  | some v :: r => (o, zv α v) :: zlv α (o + 1) r
theorem zlv_mem {α : zA} : ∀ (lv : List (Option zV)) (o : Nat) (q : Nat × Value), q ∈ zlv α o lv ↔ ∃ k v, lv[k]? = some (some v) ∧ q = (o + k, zv α v)
  | [], o, q => by simp [zlv]
  | none :: r, o, q => by
    show q ∈ zlv α (o + 1) r ↔ _
    rw [zlv_mem r (o + 1) q]
    constructor
    · rintro ⟨k, v, h1, h2⟩
      exact ⟨k + 1, v, by rw [List.getElem?_cons_succ]; exact h1, by rw [h2]; congr 1; omega⟩
    · rintro ⟨k, v, h1, h2⟩
      cases k with
      | zero => simp at h1
      | succ k => exact ⟨k, v, by rw [List.getElem?_cons_succ] at h1; exact h1, by rw [h2]; congr 1; omega⟩
  | some w :: r, o, q => by
    show q ∈ (o, zv α w) :: zlv α (o + 1) r ↔ _
    rw [List.mem_cons, zlv_mem r (o + 1) q]
    constructor
    · rintro (h | ⟨k, v, h1, h2⟩)
      · exact ⟨0, w, by simp, by rw [h]; rfl⟩
      · exact ⟨k + 1, v, by rw [List.getElem?_cons_succ]; exact h1, by rw [h2]; congr 1; omega⟩
    · rintro ⟨k, v, h1, h2⟩
      cases k with
      | zero => simp at h1; subst h1; exact Or.inl h2
      | succ k => exact Or.inr ⟨k, v, by rw [List.getElem?_cons_succ] at h1; exact h1, by rw [h2]; congr 1; omega⟩
def zls (α : zA) (ls : Array Slot) (nL : Nat) (lv : List (Option zV)) : Prop := lv.length = nL ∧ lv_has ls nL (zlv α 0 lv)
theorem zls_at {α : zA} {ls : Array Slot} {nL : Nat} {lv : List (Option zV)} {k : Nat} {v : zV} (h : zls α ls nL lv) (hk : lv[k]? = some (some v)) : ls[k]? = some (.val (zv α v)) :=
  h.2.2.2 (k, zv α v) ((zlv_mem lv 0 _).mpr ⟨k, v, hk, by rw [Nat.zero_add]⟩)
theorem zls_set {α : zA} {ls ls' : Array Slot} {nL : Nat} {lv : List (Option zV)} {i : Nat} {v : zV} (h : zls α ls nL lv) (hi : i < nL) (h' : lv_has ls' nL ((i, zv α v) :: (zlv α 0 lv).filter (fun q => !(q.1 == i) && !(q.1 + 1 == i && q.2.category == 2)))) : zls α ls' nL (lv.set i (some v)) := by
  refine ⟨by rw [List.length_set]; exact h.1, h'.1, h'.2.1, fun q hq => ?_⟩
  obtain ⟨k, w, h1, rfl⟩ := (zlv_mem _ 0 q).mp hq
  rw [Nat.zero_add]
  by_cases e : k = i
  · subst e
    rw [List.getElem?_set_self (by rw [h.1]; exact hi)] at h1
    cases h1
    exact h'.2.2 _ List.mem_cons_self
  · rw [List.getElem?_set_ne (Ne.symm e)] at h1
    refine h'.2.2 (k, zv α w) (List.mem_cons_of_mem _ (List.mem_filter.mpr ⟨(zlv_mem lv 0 _).mpr ⟨k, w, h1, by rw [Nat.zero_add]⟩, ?_⟩))
    simp [e, zv_cat]
/-- what a method may take as given of a state -/
def zU (D : va_G) (α : zA) (σ : zS) (U : State) : Prop := va_P D vwCl (zc α σ) U.heap ∧ va_K D vwCl (zty α) U ∧ va_D (fun _ => True) (zc α σ) ∧ ∀ w ∈ zNW, va_Nw w U
def zQc (D : va_G) (α : zA) (A : Nat → Prop) (P : zP) : Array Value → State → Outcome → State → Prop := fun _ s o t => (∃ (r : Option zV) (σ : zS), o = .returned (r.map (zv α)) ∧ P r σ ∧ va_P D vwCl (zc α σ) t.heap ∧ va_D A (zc α σ)) ∧ va_F A s t
/-- the machine's method y keeps the contract C -/
def zMet (l : Launch) (y : MethodName) (cc : ByteArray) (mx : Nat) (ret : Option FieldType) (rm : Room) (C : zK) : Prop := ∀ (D : va_G) (α : zA) (sz : Nat) (σ : zS) (as : List zV) (P : zP), C as σ P → Met l y (.code y cc mx ret :: zAll) rm (va_Pc (as.map (zv α)) (fun U => U.heap.size = sz ∧ zU D α σ U)) (zQc D α (va_A (zc α σ) sz) P) 0 0 (va_A (zc α σ) sz)
/-- a word of zAll, quickly -/
def zMem (w : Cond) : Bool := goodWord w && decide (w ∈ lw_tbl)
theorem zMem_spec {w : Cond} (h : zMem w = true) : w ∈ zAll := by
  simp only [zMem, Bool.and_eq_true, decide_eq_true_eq] at h
  exact List.mem_filter.mpr ⟨h.2, h.1⟩
/-- the tables of a method are right -/
def zIok (cc : ByteArray) (q : zI) : Bool :=
  decide (decode cc q.1 = .ok (q.2.1, q.2.2.1 - q.1)) && (decide (q.1 ≤ q.2.2.1) && match q.2.1 with
  | .if_icmp _ off => decide ((q.1 : Int) + off = (q.2.2.2.1 : Int)) && decide (q.2.2.1 - q.1 = 3)
  | .ifCond _ off => decide ((q.1 : Int) + off = (q.2.2.2.1 : Int)) && decide (q.2.2.1 - q.1 = 3)
  | .goto off => decide ((q.1 : Int) + off = (q.2.2.2.1 : Int)) && decide (q.2.2.1 - q.1 = 3)
  | .iconst n => decide (Int32.ofInt n = q.2.2.2.2) && decide (q.2.2.1 - q.1 = 1)
  | .bipush n => decide ((Int8.ofInt n).toInt32 = q.2.2.2.2) && decide (q.2.2.1 - q.1 = 2)
  | .sipush n => decide ((Int16.ofInt n).toInt32 = q.2.2.2.2) && decide (q.2.2.1 - q.1 = 3)
  | .iinc _ n => decide (Int32.ofInt n = q.2.2.2.2) && decide (q.2.2.1 - q.1 = 3)
  | .iload _ => decide (q.2.2.1 - q.1 = 2)
  | .istore _ => decide (q.2.2.1 - q.1 = 2)
  | .ldc _ => decide (q.2.2.1 - q.1 = 2)
  | .ldc_w _ => decide (q.2.2.1 - q.1 = 3)
  | .getfield _ => decide (q.2.2.1 - q.1 = 3)
  | .putfield _ => decide (q.2.2.1 - q.1 = 3)
  | .invokevirtual _ => decide (q.2.2.1 - q.1 = 3)
  | .invokestatic _ => decide (q.2.2.1 - q.1 = 3)
  | .tableswitch d lo hi offs => decide (0 ≤ (q.1 : Int) + d) && (decide (hi - lo < (offs.size : Int)) && offs.all (fun off => decide (0 ≤ (q.1 : Int) + off)))
  | _ => decide (q.2.2.1 - q.1 = 1))
def zFok (own : String) (q : zF) : Bool := match vwCl[q.2.1]? with
  | some r => decide (q.2.2.1 < r.2.2) && (zMem (Cond.fieldLink own q.1 (r.2.1 q.2.2.1).1 (r.2.1 q.2.2.1).2.1 (r.2.1 q.2.2.1).2.2.1) && (if q.2.2.2 = 0 then true else !(r.2.1 q.2.2.1).2.2.2 && (if q.2.2.2 = 1 then decide ((r.2.1 q.2.2.1).2.2.1 = "I") else decide ((r.2.1 q.2.2.1).2.2.1 = "Z"))))
  | none => false
def zRok (R : Room) (mx : Nat) (rm : Room) : Bool := decide (rm.cells = 0) && (decide (rm.slots = 0) && (Nat.ble (rm.frames + 1) R.frames && Nat.ble (8 + (mx + 11) + rm.locals) R.locals))
def zYok (y : MethodName) (cc : ByteArray) (mx : Nat) (ret : Option FieldType) (n : Nat) : Bool := zMem (Cond.code y cc mx ret) && (zMem (Cond.initialized y.cls) && (decide (y.cls ≠ "java/lang/invoke/MethodHandle") && (decide (y.cls ≠ "java/lang/invoke/VarHandle") && decide ((parseMethodDescriptor y.desc).map (fun d => d.parameters.length) = some n))))
/-- how a call is linked: of an object of class ci, static (100), static of a nest mate (101) -/
def zLk (own : String) (idx ci : Nat) (y : MethodName) : Bool :=
  if ci < 100 then zMem (Cond.methodLink own idx y) && (zMem (Cond.instanceMethod y) && (zMem (Cond.selects y.cls y y) && (match vwCl[ci]? with | some r => decide (r.1 = y.cls) | none => false)))
  else if ci = 100 then zMem (Cond.methodLink own idx y) && zMem (Cond.static y)
  else decide (Cond.methodLinkNest own idx y RX4 ∈ zNW) && zMem (Cond.static y)
def zLok (l : Launch) (own : String) (R : Room) (q : zL) : Prop := ∃ (y : MethodName) (cc : ByteArray) (mx : Nat) (ret : Option FieldType) (rm : Room), zMet l y cc mx ret rm q.2.2.2 ∧ zRok R mx rm = true ∧ zYok y cc mx ret q.2.1 = true ∧ zLk own q.1 q.2.2.1 y = true
