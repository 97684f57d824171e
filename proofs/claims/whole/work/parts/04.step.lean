/-! ONE STEP of the generator, over the machine. -/
theorem zq_f_mem {β : Type} {k : Nat} {v : β} : ∀ (l : List (Nat × β)), zq_f k l = some v → (k, v) ∈ l
  | [], h => by simp [zq_f] at h
  | q :: l, h => by
    unfold zq_f at h
    cases e : Nat.beq k q.1 with
    | true =>
      rw [e] at h
      have e2 := Nat.eq_of_beq_eq_true e
      simp only [cond_true, Option.some.injEq] at h
      rw [e2, ← h]
      exact List.mem_cons_self
    | false =>
      rw [e] at h
      exact List.mem_cons_of_mem _ (zq_f_mem l h)
theorem zq_in_mem {k : Nat} : ∀ (l : List Nat), zq_in k l = true → k ∈ l
  | [], h => by simp [zq_in] at h
  | q :: l, h => by
    unfold zq_in at h
    cases e : Nat.beq k q with
    | true => rw [Nat.eq_of_beq_eq_true e]; exact List.mem_cons_self
    | false =>
      rw [e] at h
      exact List.mem_cons_of_mem _ (zq_in_mem l h)
theorem zcond {b : Bool} {A : Prop} (h : cond b A False) : b = true ∧ A := by
  cases b with
  | true => exact ⟨rfl, h⟩
  | false => exact h.elim
def zCpy (own : String) (R : Room) (q : Nat × Nat) : Bool := match q.2 with
  | 0 => zMem (Cond.methodLink own q.1 arraycopyName) && (zMem (Cond.native arraycopyName) && (zMem (Cond.static arraycopyName) && (zMem (Cond.initialized "java/lang/System") && (Nat.ble 1 R.frames && Nat.ble (8 + (nativeFrameWords "java/lang/System" "arraycopy" 5 + 11)) R.locals))))
  | 1 => zMem (Cond.methodLink own q.1 Lib.Math.max.name) && (zMem (Cond.static Lib.Math.max.name) && (zMem (Cond.initialized "java/lang/Math") && (zMem (Cond.code Lib.Math.max.name Lib.Math.max.code 2 (some .int)) && (Nat.ble 1 R.frames && Nat.ble 21 R.locals))))
  | 2 => zMem (Cond.methodLink own q.1 Lib.Math.min.name) && (zMem (Cond.static Lib.Math.min.name) && (zMem (Cond.initialized "java/lang/Math") && (zMem (Cond.code Lib.Math.min.name Lib.Math.min.code 2 (some .int)) && (Nat.ble 1 R.frames && Nat.ble 21 R.locals))))
  | _ => false
def zrt : Nat → Option FieldType
  | 0 => none
  | 1 => some .int
  | _ => some .boolean
def zOK (l : Launch) (own : String) (cc : ByteArray) (R : Room) (ret : Option FieldType) (M : zM) : Prop :=
  (∀ q ∈ M.1, zIok cc q = true) ∧ (∀ q ∈ M.2.1, zFok own q = true) ∧ (∀ q ∈ M.2.2.1, Cond.constant own q.1 q.2 ∈ zAll) ∧ (∀ q ∈ M.2.2.2.1, zLok l own R q) ∧ (∀ q ∈ M.2.2.2.2.1, zCpy own R q = true) ∧ ret = zrt M.2.2.2.2.2
def zX (p : Program) (s : State) (m : MethodId) (args : Array Value) (meth : Method) (c : Code) (cc : ByteArray) (own : String) (nL : Nat) (D : va_G) (α : zA) (A : Nat → Prop) (ret : Option FieldType) : Prop :=
  p.tables.exec = Jvm.exec ∧ c.code = cc ∧ c.maxLocals = nL ∧ s.vm.findClass own = some m.cls ∧ (∀ w ∈ zAll, w.before args s = true) ∧ va_K D vwCl (zty α) s ∧ (∀ w ∈ zNW, va_Nw w s) ∧ (∀ q, s.heap.size ≤ q → A q) ∧ meth.locks = false ∧ meth.sig.returnType = ret
theorem zcls : ∀ (ci : Nat) (r : vw_C), vwCl[ci]? = some r → (∀ w ∈ u_ws r.1 r.2.1 r.2.2, w ∈ zAll) ∧ (∃ ty0 : Nat → FieldType, ∀ k, k < r.2.2 → parseFieldDescriptor (r.2.1 k).2.2.1 = some (ty0 k)) ∧ ∀ a, a < r.2.2 → ∀ b, b < r.2.2 → a ≠ b → (r.2.1 a).2.1 ≠ (r.2.1 b).2.1 := by
  intro ci r h
  match ci, h with
  | 0, h => cases h; exact ⟨by decide +kernel, ⟨tyX0, tyX0_ok⟩, nmX0⟩
  | 1, h => cases h; exact ⟨by decide +kernel, ⟨tyX1, tyX1_ok⟩, nmX1⟩
  | 2, h => cases h; exact ⟨by decide +kernel, ⟨tyX2, tyX2_ok⟩, nmX2⟩
  | 3, h => cases h; exact ⟨by decide +kernel, ⟨tyX3, tyX3_ok⟩, nmX3⟩
  | 4, h => cases h; exact ⟨by decide +kernel, ⟨tyX4, tyX4_ok⟩, nmX4⟩
  | 5, h => cases h; exact ⟨by decide +kernel, ⟨tyX5, tyX5_ok⟩, nmX5⟩
  | k + 6, h => simp [vwCl] at h
section ZST
variable {p : Program} {l : Launch} {e : Env} {R : Room} {s : State} {m : MethodId} {args : Array Value} {below : List Frame} {meth : Method} {c : Code}
variable {cc : ByteArray} {own : String} {nL : Nat} {D : va_G} {α : zA} {A : Nat → Prop} {ret : Option FieldType} {M : zM} {P : zP}
def zZ (p : Program) (l : Launch) (e : Env) (R : Room) (s : State) (m : MethodId) (args : Array Value) (below : List Frame) (meth : Method) (c : Code) (nL : Nat) (D : va_G) (α : zA) (A : Nat → Prop) (P : zP) (σ : zS) (pc : Nat) (lv : List (Option zV)) (st : List zV) : Prop :=
  ∀ (H : Heap) (locs : List Loc) (ls : Array Slot), va_P D vwCl (zc α σ) H → va_D A (zc α σ) → va_S A s.heap H locs → zls α ls nL lv → W p l e R s m args below meth c H locs 0 0 (MQ below (zQc D α A P) args s 0 0 A) (F0 m pc ls (st.map (zv α)))

theorem zs_iload_n (X : zX p s m args meth c cc own nL D α A ret) (O : zOK l own cc R ret M) {K : zH} (hK : ∀ σ pc lv st, K σ pc lv st → zZ p l e R s m args below meth c nL D α A P σ pc lv st) {pc nx tg : Nat} {iv : Int32} {σ : zS} {lv : List (Option zV)} {st : List zV} {k : Fin 4} (hi : zIok cc (pc, .iload_n k, nx, tg, iv) = true) (h : zex M P pc (.iload_n k) nx tg iv σ lv st K) : zZ p l e R s m args below meth c nL D α A P σ pc lv st := by
  obtain ⟨hx, hb, hml, hown, hts, hKK, hnw, hA, hlk, hret⟩ := X
  simp only [zIok, Bool.and_eq_true, decide_eq_true_eq] at hi
  obtain ⟨hd, hle, hn⟩ := hi
  obtain rfl : nx = pc + 1 := by omega
  rw [Nat.add_sub_cancel_left] at hd
  intro H locs ls hP hD hS hl
  dsimp only [zex] at h
  split at h
  · rename_i x he
    exact lv_iload_n hx hb hd rfl (zls_at hl he) (hK _ _ _ _ h H locs ls hP hD hS hl)
  · exact h.elim
theorem zs_iload (X : zX p s m args meth c cc own nL D α A ret) (O : zOK l own cc R ret M) {K : zH} (hK : ∀ σ pc lv st, K σ pc lv st → zZ p l e R s m args below meth c nL D α A P σ pc lv st) {pc nx tg : Nat} {iv : Int32} {σ : zS} {lv : List (Option zV)} {st : List zV} {k : Nat} (hi : zIok cc (pc, .iload k, nx, tg, iv) = true) (h : zex M P pc (.iload k) nx tg iv σ lv st K) : zZ p l e R s m args below meth c nL D α A P σ pc lv st := by
  obtain ⟨hx, hb, hml, hown, hts, hKK, hnw, hA, hlk, hret⟩ := X
  simp only [zIok, Bool.and_eq_true, decide_eq_true_eq] at hi
  obtain ⟨hd, hle, hn⟩ := hi
  obtain rfl : nx = pc + 2 := by omega
  rw [Nat.add_sub_cancel_left] at hd
  intro H locs ls hP hD hS hl
  dsimp only [zex] at h
  split at h
  · rename_i x he
    exact lv_iload hx hb hd (zls_at hl he) (hK _ _ _ _ h H locs ls hP hD hS hl)
  · exact h.elim
theorem zs_aload_n (X : zX p s m args meth c cc own nL D α A ret) (O : zOK l own cc R ret M) {K : zH} (hK : ∀ σ pc lv st, K σ pc lv st → zZ p l e R s m args below meth c nL D α A P σ pc lv st) {pc nx tg : Nat} {iv : Int32} {σ : zS} {lv : List (Option zV)} {st : List zV} {k : Fin 4} (hi : zIok cc (pc, .aload_n k, nx, tg, iv) = true) (h : zex M P pc (.aload_n k) nx tg iv σ lv st K) : zZ p l e R s m args below meth c nL D α A P σ pc lv st := by
  obtain ⟨hx, hb, hml, hown, hts, hKK, hnw, hA, hlk, hret⟩ := X
  simp only [zIok, Bool.and_eq_true, decide_eq_true_eq] at hi
  obtain ⟨hd, hle, hn⟩ := hi
  obtain rfl : nx = pc + 1 := by omega
  rw [Nat.add_sub_cancel_left] at hd
  intro H locs ls hP hD hS hl
  dsimp only [zex] at h
  split at h
  · rename_i x he
    have h1 := zls_at hl he
    rcases x with k' | q
    · exact lv_aload_n hx hb hd rfl h1 (hK _ _ _ _ h H locs ls hP hD hS hl)
    · exact lv_aload_n hx hb hd rfl h1 (hK _ _ _ _ h H locs ls hP hD hS hl)
  · exact h.elim
theorem zs_iconst (X : zX p s m args meth c cc own nL D α A ret) (O : zOK l own cc R ret M) {K : zH} (hK : ∀ σ pc lv st, K σ pc lv st → zZ p l e R s m args below meth c nL D α A P σ pc lv st) {pc nx tg : Nat} {iv : Int32} {σ : zS} {lv : List (Option zV)} {st : List zV} {z : Int} (hi : zIok cc (pc, .iconst z, nx, tg, iv) = true) (h : zex M P pc (.iconst z) nx tg iv σ lv st K) : zZ p l e R s m args below meth c nL D α A P σ pc lv st := by
  obtain ⟨hx, hb, hml, hown, hts, hKK, hnw, hA, hlk, hret⟩ := X
  simp only [zIok, Bool.and_eq_true, decide_eq_true_eq] at hi
  obtain ⟨hd, hle, hv, hn⟩ := hi
  obtain rfl : nx = pc + 1 := by omega
  rw [Nat.add_sub_cancel_left] at hd
  intro H locs ls hP hD hS hl
  dsimp only [zex] at h
  exact lv_iconst hx hb hd hv (hK _ _ _ _ h H locs ls hP hD hS hl)
theorem zs_bipush (X : zX p s m args meth c cc own nL D α A ret) (O : zOK l own cc R ret M) {K : zH} (hK : ∀ σ pc lv st, K σ pc lv st → zZ p l e R s m args below meth c nL D α A P σ pc lv st) {pc nx tg : Nat} {iv : Int32} {σ : zS} {lv : List (Option zV)} {st : List zV} {z : Int} (hi : zIok cc (pc, .bipush z, nx, tg, iv) = true) (h : zex M P pc (.bipush z) nx tg iv σ lv st K) : zZ p l e R s m args below meth c nL D α A P σ pc lv st := by
  obtain ⟨hx, hb, hml, hown, hts, hKK, hnw, hA, hlk, hret⟩ := X
  simp only [zIok, Bool.and_eq_true, decide_eq_true_eq] at hi
  obtain ⟨hd, hle, hv, hn⟩ := hi
  obtain rfl : nx = pc + 2 := by omega
  rw [Nat.add_sub_cancel_left] at hd
  intro H locs ls hP hD hS hl
  dsimp only [zex] at h
  exact lv_bipush hx hb hd hv (hK _ _ _ _ h H locs ls hP hD hS hl)
theorem zs_sipush (X : zX p s m args meth c cc own nL D α A ret) (O : zOK l own cc R ret M) {K : zH} (hK : ∀ σ pc lv st, K σ pc lv st → zZ p l e R s m args below meth c nL D α A P σ pc lv st) {pc nx tg : Nat} {iv : Int32} {σ : zS} {lv : List (Option zV)} {st : List zV} {z : Int} (hi : zIok cc (pc, .sipush z, nx, tg, iv) = true) (h : zex M P pc (.sipush z) nx tg iv σ lv st K) : zZ p l e R s m args below meth c nL D α A P σ pc lv st := by
  obtain ⟨hx, hb, hml, hown, hts, hKK, hnw, hA, hlk, hret⟩ := X
  simp only [zIok, Bool.and_eq_true, decide_eq_true_eq] at hi
  obtain ⟨hd, hle, hv, hn⟩ := hi
  obtain rfl : nx = pc + 3 := by omega
  rw [Nat.add_sub_cancel_left] at hd
  intro H locs ls hP hD hS hl
  dsimp only [zex] at h
  exact lv_sipush hx hb hd hv (hK _ _ _ _ h H locs ls hP hD hS hl)
theorem zs_ldc (X : zX p s m args meth c cc own nL D α A ret) (O : zOK l own cc R ret M) {K : zH} (hK : ∀ σ pc lv st, K σ pc lv st → zZ p l e R s m args below meth c nL D α A P σ pc lv st) {pc nx tg : Nat} {iv : Int32} {σ : zS} {lv : List (Option zV)} {st : List zV} {k : Nat} (hi : zIok cc (pc, .ldc k, nx, tg, iv) = true) (h : zex M P pc (.ldc k) nx tg iv σ lv st K) : zZ p l e R s m args below meth c nL D α A P σ pc lv st := by
  obtain ⟨hx, hb, hml, hown, hts, hKK, hnw, hA, hlk, hret⟩ := X
  simp only [zIok, Bool.and_eq_true, decide_eq_true_eq] at hi
  obtain ⟨hd, hle, hn⟩ := hi
  obtain rfl : nx = pc + 2 := by omega
  rw [Nat.add_sub_cancel_left] at hd
  intro H locs ls hP hD hS hl
  dsimp only [zex] at h
  split at h
  · rename_i v he
    exact lv_ldc hx hb hown (hts _ (O.2.2.1 _ (zq_f_mem _ he))) hd (hK _ _ _ _ h H locs ls hP hD hS hl)
  · exact h.elim
theorem zs_ldc_w (X : zX p s m args meth c cc own nL D α A ret) (O : zOK l own cc R ret M) {K : zH} (hK : ∀ σ pc lv st, K σ pc lv st → zZ p l e R s m args below meth c nL D α A P σ pc lv st) {pc nx tg : Nat} {iv : Int32} {σ : zS} {lv : List (Option zV)} {st : List zV} {k : Nat} (hi : zIok cc (pc, .ldc_w k, nx, tg, iv) = true) (h : zex M P pc (.ldc_w k) nx tg iv σ lv st K) : zZ p l e R s m args below meth c nL D α A P σ pc lv st := by
  obtain ⟨hx, hb, hml, hown, hts, hKK, hnw, hA, hlk, hret⟩ := X
  simp only [zIok, Bool.and_eq_true, decide_eq_true_eq] at hi
  obtain ⟨hd, hle, hn⟩ := hi
  obtain rfl : nx = pc + 3 := by omega
  rw [Nat.add_sub_cancel_left] at hd
  intro H locs ls hP hD hS hl
  dsimp only [zex] at h
  split at h
  · rename_i v he
    exact lv_ldcw hx hb hown (hts _ (O.2.2.1 _ (zq_f_mem _ he))) hd (hK _ _ _ _ h H locs ls hP hD hS hl)
  · exact h.elim
theorem zs_istore_n (X : zX p s m args meth c cc own nL D α A ret) (O : zOK l own cc R ret M) {K : zH} (hK : ∀ σ pc lv st, K σ pc lv st → zZ p l e R s m args below meth c nL D α A P σ pc lv st) {pc nx tg : Nat} {iv : Int32} {σ : zS} {lv : List (Option zV)} {st : List zV} {k : Fin 4} (hi : zIok cc (pc, .istore_n k, nx, tg, iv) = true) (h : zex M P pc (.istore_n k) nx tg iv σ lv st K) : zZ p l e R s m args below meth c nL D α A P σ pc lv st := by
  obtain ⟨hx, hb, hml, hown, hts, hKK, hnw, hA, hlk, hret⟩ := X
  simp only [zIok, Bool.and_eq_true, decide_eq_true_eq] at hi
  obtain ⟨hd, hle, hn⟩ := hi
  obtain rfl : nx = pc + 1 := by omega
  rw [Nat.add_sub_cancel_left] at hd
  intro H locs ls hP hD hS hl
  dsimp only [zex] at h
  split at h
  · rename_i x r y he
    have hk : k.val < nL := by rw [← hl.1]; exact (List.getElem?_eq_some_iff.mp he).1
    exact lv_istore_n hx hb hd rfl hl.2 hk rfl (fun ls2 hl2 => hK _ _ _ _ h H locs ls2 hP hD hS (zls_set (v := .inl x) hl hk hl2))
  · exact h.elim
theorem zs_istore (X : zX p s m args meth c cc own nL D α A ret) (O : zOK l own cc R ret M) {K : zH} (hK : ∀ σ pc lv st, K σ pc lv st → zZ p l e R s m args below meth c nL D α A P σ pc lv st) {pc nx tg : Nat} {iv : Int32} {σ : zS} {lv : List (Option zV)} {st : List zV} {k : Nat} (hi : zIok cc (pc, .istore k, nx, tg, iv) = true) (h : zex M P pc (.istore k) nx tg iv σ lv st K) : zZ p l e R s m args below meth c nL D α A P σ pc lv st := by
  obtain ⟨hx, hb, hml, hown, hts, hKK, hnw, hA, hlk, hret⟩ := X
  simp only [zIok, Bool.and_eq_true, decide_eq_true_eq] at hi
  obtain ⟨hd, hle, hn⟩ := hi
  obtain rfl : nx = pc + 2 := by omega
  rw [Nat.add_sub_cancel_left] at hd
  intro H locs ls hP hD hS hl
  dsimp only [zex] at h
  split at h
  · rename_i x r y he
    have hk : k < nL := by rw [← hl.1]; exact (List.getElem?_eq_some_iff.mp he).1
    exact lv_istore hx hb hd hl.2 hk rfl (fun ls2 hl2 => hK _ _ _ _ h H locs ls2 hP hD hS (zls_set (v := .inl x) hl hk hl2))
  · exact h.elim
theorem zs_iinc (X : zX p s m args meth c cc own nL D α A ret) (O : zOK l own cc R ret M) {K : zH} (hK : ∀ σ pc lv st, K σ pc lv st → zZ p l e R s m args below meth c nL D α A P σ pc lv st) {pc nx tg : Nat} {iv : Int32} {σ : zS} {lv : List (Option zV)} {st : List zV} {k : Nat} {z : Int} (hi : zIok cc (pc, .iinc k z, nx, tg, iv) = true) (h : zex M P pc (.iinc k z) nx tg iv σ lv st K) : zZ p l e R s m args below meth c nL D α A P σ pc lv st := by
  obtain ⟨hx, hb, hml, hown, hts, hKK, hnw, hA, hlk, hret⟩ := X
  simp only [zIok, Bool.and_eq_true, decide_eq_true_eq] at hi
  obtain ⟨hd, hle, hv, hn⟩ := hi
  obtain rfl : nx = pc + 3 := by omega
  rw [Nat.add_sub_cancel_left] at hd
  intro H locs ls hP hD hS hl
  dsimp only [zex] at h
  split at h
  · rename_i x he
    have hk : k < nL := by rw [← hl.1]; exact (List.getElem?_eq_some_iff.mp he).1
    obtain ⟨j, hj⟩ := List.getElem?_of_mem ((zlv_mem (α := α) lv 0 (k, .int x)).mpr ⟨k, .inl x, he, by rw [Nat.zero_add]; rfl⟩)
    exact lv_iinc hx hb hd hl.2 hj (by rw [hv]) hk rfl (fun ls2 hl2 => hK _ _ _ _ h H locs ls2 hP hD hS (zls_set (v := .inl (x + iv)) hl hk hl2))
  · exact h.elim
theorem zs_iadd (X : zX p s m args meth c cc own nL D α A ret) (O : zOK l own cc R ret M) {K : zH} (hK : ∀ σ pc lv st, K σ pc lv st → zZ p l e R s m args below meth c nL D α A P σ pc lv st) {pc nx tg : Nat} {iv : Int32} {σ : zS} {lv : List (Option zV)} {st : List zV}  (hi : zIok cc (pc, .iadd, nx, tg, iv) = true) (h : zex M P pc (.iadd) nx tg iv σ lv st K) : zZ p l e R s m args below meth c nL D α A P σ pc lv st := by
  obtain ⟨hx, hb, hml, hown, hts, hKK, hnw, hA, hlk, hret⟩ := X
  simp only [zIok, Bool.and_eq_true, decide_eq_true_eq] at hi
  obtain ⟨hd, hle, hn⟩ := hi
  obtain rfl : nx = pc + 1 := by omega
  rw [Nat.add_sub_cancel_left] at hd
  intro H locs ls hP hD hS hl
  dsimp only [zex] at h
  split at h
  · rename_i y x r
    exact lv_iadd hx hb hd (hK _ _ _ _ h H locs ls hP hD hS hl)
  · exact h.elim
theorem zs_isub (X : zX p s m args meth c cc own nL D α A ret) (O : zOK l own cc R ret M) {K : zH} (hK : ∀ σ pc lv st, K σ pc lv st → zZ p l e R s m args below meth c nL D α A P σ pc lv st) {pc nx tg : Nat} {iv : Int32} {σ : zS} {lv : List (Option zV)} {st : List zV}  (hi : zIok cc (pc, .isub, nx, tg, iv) = true) (h : zex M P pc (.isub) nx tg iv σ lv st K) : zZ p l e R s m args below meth c nL D α A P σ pc lv st := by
  obtain ⟨hx, hb, hml, hown, hts, hKK, hnw, hA, hlk, hret⟩ := X
  simp only [zIok, Bool.and_eq_true, decide_eq_true_eq] at hi
  obtain ⟨hd, hle, hn⟩ := hi
  obtain rfl : nx = pc + 1 := by omega
  rw [Nat.add_sub_cancel_left] at hd
  intro H locs ls hP hD hS hl
  dsimp only [zex] at h
  split at h
  · rename_i y x r
    exact lv_isub hx hb hd (hK _ _ _ _ h H locs ls hP hD hS hl)
  · exact h.elim
theorem zs_imul (X : zX p s m args meth c cc own nL D α A ret) (O : zOK l own cc R ret M) {K : zH} (hK : ∀ σ pc lv st, K σ pc lv st → zZ p l e R s m args below meth c nL D α A P σ pc lv st) {pc nx tg : Nat} {iv : Int32} {σ : zS} {lv : List (Option zV)} {st : List zV}  (hi : zIok cc (pc, .imul, nx, tg, iv) = true) (h : zex M P pc (.imul) nx tg iv σ lv st K) : zZ p l e R s m args below meth c nL D α A P σ pc lv st := by
  obtain ⟨hx, hb, hml, hown, hts, hKK, hnw, hA, hlk, hret⟩ := X
  simp only [zIok, Bool.and_eq_true, decide_eq_true_eq] at hi
  obtain ⟨hd, hle, hn⟩ := hi
  obtain rfl : nx = pc + 1 := by omega
  rw [Nat.add_sub_cancel_left] at hd
  intro H locs ls hP hD hS hl
  dsimp only [zex] at h
  split at h
  · rename_i y x r
    exact lv_imul hx hb hd (hK _ _ _ _ h H locs ls hP hD hS hl)
  · exact h.elim
theorem zs_iand (X : zX p s m args meth c cc own nL D α A ret) (O : zOK l own cc R ret M) {K : zH} (hK : ∀ σ pc lv st, K σ pc lv st → zZ p l e R s m args below meth c nL D α A P σ pc lv st) {pc nx tg : Nat} {iv : Int32} {σ : zS} {lv : List (Option zV)} {st : List zV}  (hi : zIok cc (pc, .iand, nx, tg, iv) = true) (h : zex M P pc (.iand) nx tg iv σ lv st K) : zZ p l e R s m args below meth c nL D α A P σ pc lv st := by
  obtain ⟨hx, hb, hml, hown, hts, hKK, hnw, hA, hlk, hret⟩ := X
  simp only [zIok, Bool.and_eq_true, decide_eq_true_eq] at hi
  obtain ⟨hd, hle, hn⟩ := hi
  obtain rfl : nx = pc + 1 := by omega
  rw [Nat.add_sub_cancel_left] at hd
  intro H locs ls hP hD hS hl
  dsimp only [zex] at h
  split at h
  · rename_i y x r
    exact lv_iand hx hb hd (hK _ _ _ _ h H locs ls hP hD hS hl)
  · exact h.elim
theorem zs_ior (X : zX p s m args meth c cc own nL D α A ret) (O : zOK l own cc R ret M) {K : zH} (hK : ∀ σ pc lv st, K σ pc lv st → zZ p l e R s m args below meth c nL D α A P σ pc lv st) {pc nx tg : Nat} {iv : Int32} {σ : zS} {lv : List (Option zV)} {st : List zV}  (hi : zIok cc (pc, .ior, nx, tg, iv) = true) (h : zex M P pc (.ior) nx tg iv σ lv st K) : zZ p l e R s m args below meth c nL D α A P σ pc lv st := by
  obtain ⟨hx, hb, hml, hown, hts, hKK, hnw, hA, hlk, hret⟩ := X
  simp only [zIok, Bool.and_eq_true, decide_eq_true_eq] at hi
  obtain ⟨hd, hle, hn⟩ := hi
  obtain rfl : nx = pc + 1 := by omega
  rw [Nat.add_sub_cancel_left] at hd
  intro H locs ls hP hD hS hl
  dsimp only [zex] at h
  split at h
  · rename_i y x r
    exact lv_ior hx hb hd (hK _ _ _ _ h H locs ls hP hD hS hl)
  · exact h.elim
theorem zs_ixor (X : zX p s m args meth c cc own nL D α A ret) (O : zOK l own cc R ret M) {K : zH} (hK : ∀ σ pc lv st, K σ pc lv st → zZ p l e R s m args below meth c nL D α A P σ pc lv st) {pc nx tg : Nat} {iv : Int32} {σ : zS} {lv : List (Option zV)} {st : List zV}  (hi : zIok cc (pc, .ixor, nx, tg, iv) = true) (h : zex M P pc (.ixor) nx tg iv σ lv st K) : zZ p l e R s m args below meth c nL D α A P σ pc lv st := by
  obtain ⟨hx, hb, hml, hown, hts, hKK, hnw, hA, hlk, hret⟩ := X
  simp only [zIok, Bool.and_eq_true, decide_eq_true_eq] at hi
  obtain ⟨hd, hle, hn⟩ := hi
  obtain rfl : nx = pc + 1 := by omega
  rw [Nat.add_sub_cancel_left] at hd
  intro H locs ls hP hD hS hl
  dsimp only [zex] at h
  split at h
  · rename_i y x r
    exact lv_ixor hx hb hd (hK _ _ _ _ h H locs ls hP hD hS hl)
  · exact h.elim
theorem zs_ishl (X : zX p s m args meth c cc own nL D α A ret) (O : zOK l own cc R ret M) {K : zH} (hK : ∀ σ pc lv st, K σ pc lv st → zZ p l e R s m args below meth c nL D α A P σ pc lv st) {pc nx tg : Nat} {iv : Int32} {σ : zS} {lv : List (Option zV)} {st : List zV}  (hi : zIok cc (pc, .ishl, nx, tg, iv) = true) (h : zex M P pc (.ishl) nx tg iv σ lv st K) : zZ p l e R s m args below meth c nL D α A P σ pc lv st := by
  obtain ⟨hx, hb, hml, hown, hts, hKK, hnw, hA, hlk, hret⟩ := X
  simp only [zIok, Bool.and_eq_true, decide_eq_true_eq] at hi
  obtain ⟨hd, hle, hn⟩ := hi
  obtain rfl : nx = pc + 1 := by omega
  rw [Nat.add_sub_cancel_left] at hd
  intro H locs ls hP hD hS hl
  dsimp only [zex] at h
  split at h
  · rename_i y x r
    exact lv_ishl hx hb hd (hK _ _ _ _ h H locs ls hP hD hS hl)
  · exact h.elim
theorem zs_ishr (X : zX p s m args meth c cc own nL D α A ret) (O : zOK l own cc R ret M) {K : zH} (hK : ∀ σ pc lv st, K σ pc lv st → zZ p l e R s m args below meth c nL D α A P σ pc lv st) {pc nx tg : Nat} {iv : Int32} {σ : zS} {lv : List (Option zV)} {st : List zV}  (hi : zIok cc (pc, .ishr, nx, tg, iv) = true) (h : zex M P pc (.ishr) nx tg iv σ lv st K) : zZ p l e R s m args below meth c nL D α A P σ pc lv st := by
  obtain ⟨hx, hb, hml, hown, hts, hKK, hnw, hA, hlk, hret⟩ := X
  simp only [zIok, Bool.and_eq_true, decide_eq_true_eq] at hi
  obtain ⟨hd, hle, hn⟩ := hi
  obtain rfl : nx = pc + 1 := by omega
  rw [Nat.add_sub_cancel_left] at hd
  intro H locs ls hP hD hS hl
  dsimp only [zex] at h
  split at h
  · rename_i y x r
    exact lv_ishr hx hb hd (hK _ _ _ _ h H locs ls hP hD hS hl)
  · exact h.elim
theorem zs_iushr (X : zX p s m args meth c cc own nL D α A ret) (O : zOK l own cc R ret M) {K : zH} (hK : ∀ σ pc lv st, K σ pc lv st → zZ p l e R s m args below meth c nL D α A P σ pc lv st) {pc nx tg : Nat} {iv : Int32} {σ : zS} {lv : List (Option zV)} {st : List zV}  (hi : zIok cc (pc, .iushr, nx, tg, iv) = true) (h : zex M P pc (.iushr) nx tg iv σ lv st K) : zZ p l e R s m args below meth c nL D α A P σ pc lv st := by
  obtain ⟨hx, hb, hml, hown, hts, hKK, hnw, hA, hlk, hret⟩ := X
  simp only [zIok, Bool.and_eq_true, decide_eq_true_eq] at hi
  obtain ⟨hd, hle, hn⟩ := hi
  obtain rfl : nx = pc + 1 := by omega
  rw [Nat.add_sub_cancel_left] at hd
  intro H locs ls hP hD hS hl
  dsimp only [zex] at h
  split at h
  · rename_i y x r
    exact lv_iushr hx hb hd rfl (hK _ _ _ _ h H locs ls hP hD hS hl)
  · exact h.elim
theorem zs_ineg (X : zX p s m args meth c cc own nL D α A ret) (O : zOK l own cc R ret M) {K : zH} (hK : ∀ σ pc lv st, K σ pc lv st → zZ p l e R s m args below meth c nL D α A P σ pc lv st) {pc nx tg : Nat} {iv : Int32} {σ : zS} {lv : List (Option zV)} {st : List zV}  (hi : zIok cc (pc, .ineg, nx, tg, iv) = true) (h : zex M P pc (.ineg) nx tg iv σ lv st K) : zZ p l e R s m args below meth c nL D α A P σ pc lv st := by
  obtain ⟨hx, hb, hml, hown, hts, hKK, hnw, hA, hlk, hret⟩ := X
  simp only [zIok, Bool.and_eq_true, decide_eq_true_eq] at hi
  obtain ⟨hd, hle, hn⟩ := hi
  obtain rfl : nx = pc + 1 := by omega
  rw [Nat.add_sub_cancel_left] at hd
  intro H locs ls hP hD hS hl
  dsimp only [zex] at h
  split at h
  · rename_i x r
    exact lv_ineg hx hb hd (hK _ _ _ _ h H locs ls hP hD hS hl)
  · exact h.elim
theorem zs_dup (X : zX p s m args meth c cc own nL D α A ret) (O : zOK l own cc R ret M) {K : zH} (hK : ∀ σ pc lv st, K σ pc lv st → zZ p l e R s m args below meth c nL D α A P σ pc lv st) {pc nx tg : Nat} {iv : Int32} {σ : zS} {lv : List (Option zV)} {st : List zV}  (hi : zIok cc (pc, .dup, nx, tg, iv) = true) (h : zex M P pc (.dup) nx tg iv σ lv st K) : zZ p l e R s m args below meth c nL D α A P σ pc lv st := by
  obtain ⟨hx, hb, hml, hown, hts, hKK, hnw, hA, hlk, hret⟩ := X
  simp only [zIok, Bool.and_eq_true, decide_eq_true_eq] at hi
  obtain ⟨hd, hle, hn⟩ := hi
  obtain rfl : nx = pc + 1 := by omega
  rw [Nat.add_sub_cancel_left] at hd
  intro H locs ls hP hD hS hl
  dsimp only [zex] at h
  split at h
  · rename_i v r
    exact lv_dup hx hb hd (zv_cat α v) (hK _ _ _ _ h H locs ls hP hD hS hl)
  · exact h.elim
theorem zs_dup2 (X : zX p s m args meth c cc own nL D α A ret) (O : zOK l own cc R ret M) {K : zH} (hK : ∀ σ pc lv st, K σ pc lv st → zZ p l e R s m args below meth c nL D α A P σ pc lv st) {pc nx tg : Nat} {iv : Int32} {σ : zS} {lv : List (Option zV)} {st : List zV}  (hi : zIok cc (pc, .dup2, nx, tg, iv) = true) (h : zex M P pc (.dup2) nx tg iv σ lv st K) : zZ p l e R s m args below meth c nL D α A P σ pc lv st := by
  obtain ⟨hx, hb, hml, hown, hts, hKK, hnw, hA, hlk, hret⟩ := X
  simp only [zIok, Bool.and_eq_true, decide_eq_true_eq] at hi
  obtain ⟨hd, hle, hn⟩ := hi
  obtain rfl : nx = pc + 1 := by omega
  rw [Nat.add_sub_cancel_left] at hd
  intro H locs ls hP hD hS hl
  dsimp only [zex] at h
  split at h
  · rename_i v y r
    exact lv_dup2_11 hx hb hd (zv_cat α v) (zv_cat α y) (hK _ _ _ _ h H locs ls hP hD hS hl)
  · exact h.elim
theorem zs_goto (X : zX p s m args meth c cc own nL D α A ret) (O : zOK l own cc R ret M) {K : zH} (hK : ∀ σ pc lv st, K σ pc lv st → zZ p l e R s m args below meth c nL D α A P σ pc lv st) {pc nx tg : Nat} {iv : Int32} {σ : zS} {lv : List (Option zV)} {st : List zV} {z : Int} (hi : zIok cc (pc, .goto z, nx, tg, iv) = true) (h : zex M P pc (.goto z) nx tg iv σ lv st K) : zZ p l e R s m args below meth c nL D α A P σ pc lv st := by
  obtain ⟨hx, hb, hml, hown, hts, hKK, hnw, hA, hlk, hret⟩ := X
  simp only [zIok, Bool.and_eq_true, decide_eq_true_eq] at hi
  obtain ⟨hd, hle, hv, hn⟩ := hi
  obtain rfl : nx = pc + 3 := by omega
  rw [Nat.add_sub_cancel_left] at hd
  intro H locs ls hP hD hS hl
  dsimp only [zex] at h
  exact lv_goto hx hb hd hv (hK _ _ _ _ h H locs ls hP hD hS hl)
theorem zs_ifc (X : zX p s m args meth c cc own nL D α A ret) (O : zOK l own cc R ret M) {K : zH} (hK : ∀ σ pc lv st, K σ pc lv st → zZ p l e R s m args below meth c nL D α A P σ pc lv st) {pc nx tg : Nat} {iv : Int32} {σ : zS} {lv : List (Option zV)} {st : List zV} {q : Jvm.ClassFile.Cond} {z : Int} (hi : zIok cc (pc, .ifCond q z, nx, tg, iv) = true) (h : zex M P pc (.ifCond q z) nx tg iv σ lv st K) : zZ p l e R s m args below meth c nL D α A P σ pc lv st := by
  obtain ⟨hx, hb, hml, hown, hts, hKK, hnw, hA, hlk, hret⟩ := X
  simp only [zIok, Bool.and_eq_true, decide_eq_true_eq] at hi
  obtain ⟨hd, hle, hv, hn⟩ := hi
  obtain rfl : nx = pc + 3 := by omega
  rw [Nat.add_sub_cancel_left] at hd
  intro H locs ls hP hD hS hl
  dsimp only [zex] at h
  split at h
  · cases q <;> dsimp only [zcd] at h
    case eq => exact lv_if_eq hx hb hd hv (fun q => hK _ _ _ _ (h.1 q) H locs ls hP hD hS hl) (fun q => hK _ _ _ _ (h.2 q) H locs ls hP hD hS hl)
    case ne => exact lv_if_ne hx hb hd hv (fun q => hK _ _ _ _ (h.1 q) H locs ls hP hD hS hl) (fun q => hK _ _ _ _ (h.2 q) H locs ls hP hD hS hl)
    case lt => exact lv_if_lt hx hb hd hv (fun q => hK _ _ _ _ (h.1 q) H locs ls hP hD hS hl) (fun q => hK _ _ _ _ (h.2 q) H locs ls hP hD hS hl)
    case ge => exact lv_if_ge hx hb hd hv (fun q => hK _ _ _ _ (h.1 q) H locs ls hP hD hS hl) (fun q => hK _ _ _ _ (h.2 q) H locs ls hP hD hS hl)
    case gt => exact lv_if_gt hx hb hd hv (fun q => hK _ _ _ _ (h.1 q) H locs ls hP hD hS hl) (fun q => hK _ _ _ _ (h.2 q) H locs ls hP hD hS hl)
    case le => exact lv_if_le hx hb hd hv (fun q => hK _ _ _ _ (h.1 q) H locs ls hP hD hS hl) (fun q => hK _ _ _ _ (h.2 q) H locs ls hP hD hS hl)
  · exact h.elim
theorem zs_icmp (X : zX p s m args meth c cc own nL D α A ret) (O : zOK l own cc R ret M) {K : zH} (hK : ∀ σ pc lv st, K σ pc lv st → zZ p l e R s m args below meth c nL D α A P σ pc lv st) {pc nx tg : Nat} {iv : Int32} {σ : zS} {lv : List (Option zV)} {st : List zV} {q : Jvm.ClassFile.Cond} {z : Int} (hi : zIok cc (pc, .if_icmp q z, nx, tg, iv) = true) (h : zex M P pc (.if_icmp q z) nx tg iv σ lv st K) : zZ p l e R s m args below meth c nL D α A P σ pc lv st := by
  obtain ⟨hx, hb, hml, hown, hts, hKK, hnw, hA, hlk, hret⟩ := X
  simp only [zIok, Bool.and_eq_true, decide_eq_true_eq] at hi
  obtain ⟨hd, hle, hv, hn⟩ := hi
  obtain rfl : nx = pc + 3 := by omega
  rw [Nat.add_sub_cancel_left] at hd
  intro H locs ls hP hD hS hl
  dsimp only [zex] at h
  split at h
  · cases q <;> dsimp only [zcd] at h
    case eq => exact lv_icmp_eq hx hb hd hv (fun q => hK _ _ _ _ (h.1 q) H locs ls hP hD hS hl) (fun q => hK _ _ _ _ (h.2 q) H locs ls hP hD hS hl)
    case ne => exact lv_icmp_ne hx hb hd hv (fun q => hK _ _ _ _ (h.1 q) H locs ls hP hD hS hl) (fun q => hK _ _ _ _ (h.2 q) H locs ls hP hD hS hl)
    case lt => exact lv_icmp_lt hx hb hd hv (fun q => hK _ _ _ _ (h.1 q) H locs ls hP hD hS hl) (fun q => hK _ _ _ _ (h.2 q) H locs ls hP hD hS hl)
    case ge => exact lv_icmp_ge hx hb hd hv (fun q => hK _ _ _ _ (h.1 q) H locs ls hP hD hS hl) (fun q => hK _ _ _ _ (h.2 q) H locs ls hP hD hS hl)
    case gt => exact lv_icmp_gt hx hb hd hv (fun q => hK _ _ _ _ (h.1 q) H locs ls hP hD hS hl) (fun q => hK _ _ _ _ (h.2 q) H locs ls hP hD hS hl)
    case le => exact lv_icmp_le hx hb hd hv (fun q => hK _ _ _ _ (h.1 q) H locs ls hP hD hS hl) (fun q => hK _ _ _ _ (h.2 q) H locs ls hP hD hS hl)
  · exact h.elim
theorem zs_getfield (X : zX p s m args meth c cc own nL D α A ret) (O : zOK l own cc R ret M) {K : zH} (hK : ∀ σ pc lv st, K σ pc lv st → zZ p l e R s m args below meth c nL D α A P σ pc lv st) {pc nx tg : Nat} {iv : Int32} {σ : zS} {lv : List (Option zV)} {st : List zV} {k : Nat} (hi : zIok cc (pc, .getfield k, nx, tg, iv) = true) (h : zex M P pc (.getfield k) nx tg iv σ lv st K) : zZ p l e R s m args below meth c nL D α A P σ pc lv st := by
  obtain ⟨hx, hb, hml, hown, hts, hKK, hnw, hA, hlk, hret⟩ := X
  simp only [zIok, Bool.and_eq_true, decide_eq_true_eq] at hi
  obtain ⟨hd, hle, hn⟩ := hi
  obtain rfl : nx = pc + 3 := by omega
  rw [Nat.add_sub_cancel_left] at hd
  intro H locs ls hP hD hS hl
  dsimp only [zex] at h
  split at h
  · rename_i k' r ci j kd he
    split at h
    · rename_i c' fs hs
      obtain ⟨hb1, h⟩ := zcond h
      have e1 := Nat.eq_of_beq_eq_true hb1
      split at h
      · rename_i v hv
        have hf := O.2.1 _ (zq_f_mem _ he)
        unfold zFok at hf
        split at hf
        · rename_i rr hrr
          simp only [Bool.and_eq_true, decide_eq_true_eq] at hf
          obtain ⟨hj, hlnk, -⟩ := hf
          obtain ⟨q0, hq0⟩ := zc_get (α := α) 0 hs (x := (α.1 k', .inr (c', fs.map (zv α)))) rfl
          have hrr' : vwCl[c']? = some rr := by rw [e1]; exact hrr
          refine va_get (D := D) (C := rr.1) (T := rr.2.1) (N := rr.2.2) (ref := (rr.2.1 j).1) hx hb hts (zcls _ _ hrr).1 hown hKK hP q0 hq0 hrr' j hj (hts _ (zMem_spec hlnk)) (fun _ h9 => h9) (v := zv α v) (by rw [List.getElem?_map, hv]; rfl) hd (hK _ _ _ _ h H locs ls hP hD hS hl)
        · cases hf
      · exact h.elim
    · exact h.elim
  · exact h.elim
theorem zs_putfield (X : zX p s m args meth c cc own nL D α A ret) (O : zOK l own cc R ret M) {K : zH} (hK : ∀ σ pc lv st, K σ pc lv st → zZ p l e R s m args below meth c nL D α A P σ pc lv st) {pc nx tg : Nat} {iv : Int32} {σ : zS} {lv : List (Option zV)} {st : List zV} {k : Nat} (hi : zIok cc (pc, .putfield k, nx, tg, iv) = true) (h : zex M P pc (.putfield k) nx tg iv σ lv st K) : zZ p l e R s m args below meth c nL D α A P σ pc lv st := by
  obtain ⟨hx, hb, hml, hown, hts, hKK, hnw, hA, hlk, hret⟩ := X
  simp only [zIok, Bool.and_eq_true, decide_eq_true_eq] at hi
  obtain ⟨hd, hle, hn⟩ := hi
  obtain rfl : nx = pc + 3 := by omega
  rw [Nat.add_sub_cancel_left] at hd
  intro H locs ls hP hD hS hl
  dsimp only [zex] at h
  split at h
  · rename_i x k' r ci j kd he
    split at h
    · rename_i c' fs hs
      obtain ⟨hb1, h⟩ := zcond h
      have e1 := Nat.eq_of_beq_eq_true hb1
      split at h
      · rename_i v0 hv
        have hf := O.2.1 _ (zq_f_mem _ he)
        unfold zFok at hf
        split at hf
        · rename_i rr hrr
          simp only [Bool.and_eq_true, decide_eq_true_eq] at hf
          obtain ⟨hj, hlnk, hkd⟩ := hf
          have hll : j < fs.length := (List.getElem?_eq_some_iff.mp hv).1
          obtain ⟨q0, hq0, hq1⟩ := zc_set (α := α) (c' := .inl (c', fs.set j (.inl x))) (x := (α.1 k', .inr (c', fs.map (zv α)))) (x' := (α.1 k', .inr (c', (fs.map (zv α)).set j (.int x)))) 0 hs rfl (by
            show [(_, _)] = [(_, _)]
            rw [List.map_set]
            rfl)
          have hrr' : vwCl[c']? = some rr := by rw [e1]; exact hrr
          obtain ⟨hin, ⟨ty0, hty⟩, hnm⟩ := zcls _ _ hrr
          have main : ∀ (ty : FieldType), (rr.2.1 j).2.2.2 = false → parseFieldDescriptor (rr.2.1 j).2.2.1 = some ty → narrow ty (.int x) = .int x → fits ty (.int x) = true → K (σ.set k' (.inl (c', fs.set j (.inl x)))) (pc + 3) lv r → W p l e R s m args below meth c H locs 0 0 (MQ below (zQc D α A P) args s 0 0 A) (F0 m pc ls ((Sum.inl x :: Sum.inr (Sum.inl k') :: r : List zV).map (zv α))) := by
            intro ty f1 f2 f3 f4 h
            refine va_put (D := D) (v := .int x) (ty := ty) (C := rr.1) (T := rr.2.1) (N := rr.2.2) (ref := (rr.2.1 j).1) hx hb hts hin ty0 hty hnm hown hKK hP hD hS q0 hq0 hrr' j hj (hts _ (zMem_spec hlnk)) (fun _ h9 => h9) f1 f2 f3 f4 (by rw [List.length_map]; exact hll) hd (fun H1 locs1 hP1 hD1 hS1 => ?_)
            rw [← hq1] at hP1 hD1
            exact hK _ _ _ _ h H1 locs1 ls hP1 hD1 hS1 hl
          unfold zpt at h
          split at h
          · simp only [Nat.one_ne_zero, if_false, if_true, Bool.and_eq_true, decide_eq_true_eq, Bool.not_eq_true'] at hkd
            exact main .int hkd.1 (by rw [hkd.2]; decide) rfl rfl h
          · simp only [Nat.reduceEqDiff, if_false, Bool.and_eq_true, decide_eq_true_eq, Bool.not_eq_true'] at hkd
            refine main .boolean hkd.1 (by rw [hkd.2]; decide) ?_ ?_ h.2
            · rcases h.1 with e | e <;> rw [e] <;> decide
            · rcases h.1 with e | e <;> rw [e] <;> decide
          · exact h.elim
        · cases hf
      · exact h.elim
    · exact h.elim
  · exact h.elim
theorem zs_iaload (X : zX p s m args meth c cc own nL D α A ret) (O : zOK l own cc R ret M) {K : zH} (hK : ∀ σ pc lv st, K σ pc lv st → zZ p l e R s m args below meth c nL D α A P σ pc lv st) {pc nx tg : Nat} {iv : Int32} {σ : zS} {lv : List (Option zV)} {st : List zV}  (hi : zIok cc (pc, .iaload, nx, tg, iv) = true) (h : zex M P pc (.iaload) nx tg iv σ lv st K) : zZ p l e R s m args below meth c nL D α A P σ pc lv st := by
  obtain ⟨hx, hb, hml, hown, hts, hKK, hnw, hA, hlk, hret⟩ := X
  simp only [zIok, Bool.and_eq_true, decide_eq_true_eq] at hi
  obtain ⟨hd, hle, hn⟩ := hi
  obtain rfl : nx = pc + 1 := by omega
  rw [Nat.add_sub_cancel_left] at hd
  intro H locs ls hP hD hS hl
  dsimp only [zex] at h
  split at h
  · rename_i j k r
    split at h
    · rename_i n f hs
      obtain ⟨q0, hq0⟩ := zc_get (α := α) 0 hs (x := (α.1 k, .inl (α.2.2.1, n, .inl f))) rfl
      exact va_iald hx hb hKK hP q0 0 hq0 rfl h.1 hd (hK _ _ _ _ h.2 H locs ls hP hD hS hl)
    · exact h.elim
  · rename_i j k i r
    split at h
    · rename_i f hs
      obtain ⟨q0, hq0⟩ := zc_get (α := α) (i + 1) hs (zce_row h.1.1)
      exact va_iald hx hb hKK hP q0 0 hq0 rfl h.1.2 hd (hK _ _ _ _ h.2 H locs ls hP hD hS hl)
    · exact h.elim
  · exact h.elim
theorem zs_iastore (X : zX p s m args meth c cc own nL D α A ret) (O : zOK l own cc R ret M) {K : zH} (hK : ∀ σ pc lv st, K σ pc lv st → zZ p l e R s m args below meth c nL D α A P σ pc lv st) {pc nx tg : Nat} {iv : Int32} {σ : zS} {lv : List (Option zV)} {st : List zV}  (hi : zIok cc (pc, .iastore, nx, tg, iv) = true) (h : zex M P pc (.iastore) nx tg iv σ lv st K) : zZ p l e R s m args below meth c nL D α A P σ pc lv st := by
  obtain ⟨hx, hb, hml, hown, hts, hKK, hnw, hA, hlk, hret⟩ := X
  simp only [zIok, Bool.and_eq_true, decide_eq_true_eq] at hi
  obtain ⟨hd, hle, hn⟩ := hi
  obtain rfl : nx = pc + 1 := by omega
  rw [Nat.add_sub_cancel_left] at hd
  intro H locs ls hP hD hS hl
  dsimp only [zex] at h
  split at h
  · rename_i x j k r
    split at h
    · rename_i n f hs
      obtain ⟨q0, hq0, hq1⟩ := zc_set (α := α) (c' := .inr (.inl (n, upd f j.toNatClampNeg x))) (x := (α.1 k, .inl (α.2.2.1, n, .inl f))) (x' := (α.1 k, .inl (α.2.2.1, n, .inl (upd f j.toNatClampNeg x)))) 0 hs rfl rfl
      refine va_iast hx hb hKK hP hD hS q0 0 hq0 rfl h.1 hd (fun H1 locs1 hP1 hD1 hS1 => ?_)
      rw [← hq1] at hP1 hD1
      exact hK _ _ _ _ h.2 H1 locs1 ls hP1 hD1 hS1 hl
    · exact h.elim
  · rename_i x j k i r
    split at h
    · rename_i f hs
      obtain ⟨q0, hq0, hq1⟩ := zc_set (α := α) (i + 1) hs (zce_row h.1.1) (zce_rowset (upd (f i) j.toNatClampNeg x) h.1.1)
      refine va_iast hx hb hKK hP hD hS q0 0 hq0 rfl h.1.2 hd (fun H1 locs1 hP1 hD1 hS1 => ?_)
      rw [← hq1] at hP1 hD1
      exact hK _ _ _ _ h.2 H1 locs1 ls hP1 hD1 hS1 hl
    · exact h.elim
  · exact h.elim
theorem zs_aaload (X : zX p s m args meth c cc own nL D α A ret) (O : zOK l own cc R ret M) {K : zH} (hK : ∀ σ pc lv st, K σ pc lv st → zZ p l e R s m args below meth c nL D α A P σ pc lv st) {pc nx tg : Nat} {iv : Int32} {σ : zS} {lv : List (Option zV)} {st : List zV}  (hi : zIok cc (pc, .aaload, nx, tg, iv) = true) (h : zex M P pc (.aaload) nx tg iv σ lv st K) : zZ p l e R s m args below meth c nL D α A P σ pc lv st := by
  obtain ⟨hx, hb, hml, hown, hts, hKK, hnw, hA, hlk, hret⟩ := X
  simp only [zIok, Bool.and_eq_true, decide_eq_true_eq] at hi
  obtain ⟨hd, hle, hn⟩ := hi
  obtain rfl : nx = pc + 1 := by omega
  rw [Nat.add_sub_cancel_left] at hd
  intro H locs ls hP hD hS hl
  dsimp only [zex] at h
  split at h
  · rename_i j k r
    split at h
    · rename_i f hs
      obtain ⟨q0, hq0⟩ := zc_get (α := α) 0 hs (x := (α.1 k, .inl (α.2.2.2, 12, .inr (.inr (.inr (.inr (fun i => if i < 12 then some (α.2.1 k i) else none))))))) rfl
      have hlt : j.toNatClampNeg < 12 := Nat.not_le.mp fun q => h.1 (Or.inr q)
      have h9 := hK _ _ _ _ h.2 H locs ls hP hD hS hl
      exact W.aald (v := .ref (α.2.1 k j.toNatClampNeg)) (ty := .array .int) hx hb (hP q0 _ hq0) ((hKK.2 1 _ rfl).1 12 (fun i => va_rf (if i < 12 then some (α.2.1 k i) else none))) rfl (fun q => by cases q) (by show ¬ (j < 0 ∨ (arrV _ _ _).slots.size ≤ _); rw [arrV_size]; exact h.1) (by show (arrV _ _ _).slots[_]? = _; rw [arrV_read _ _ hlt]; show some (va_rf (if j.toNatClampNeg < 12 then some (α.2.1 k j.toNatClampNeg) else none)) = _; rw [if_pos hlt]; rfl) rfl rfl hd h9
    · exact h.elim
  · exact h.elim
theorem zs_arraylength (X : zX p s m args meth c cc own nL D α A ret) (O : zOK l own cc R ret M) {K : zH} (hK : ∀ σ pc lv st, K σ pc lv st → zZ p l e R s m args below meth c nL D α A P σ pc lv st) {pc nx tg : Nat} {iv : Int32} {σ : zS} {lv : List (Option zV)} {st : List zV}  (hi : zIok cc (pc, .arraylength, nx, tg, iv) = true) (h : zex M P pc (.arraylength) nx tg iv σ lv st K) : zZ p l e R s m args below meth c nL D α A P σ pc lv st := by
  obtain ⟨hx, hb, hml, hown, hts, hKK, hnw, hA, hlk, hret⟩ := X
  simp only [zIok, Bool.and_eq_true, decide_eq_true_eq] at hi
  obtain ⟨hd, hle, hn⟩ := hi
  obtain rfl : nx = pc + 1 := by omega
  rw [Nat.add_sub_cancel_left] at hd
  intro H locs ls hP hD hS hl
  dsimp only [zex] at h
  split at h
  · rename_i k r
    split at h
    · rename_i n f hs
      obtain ⟨q0, hq0⟩ := zc_get (α := α) 0 hs (x := (α.1 k, .inl (α.2.2.1, n, .inl f))) rfl
      exact va_alen hx hb hKK hP q0 0 hq0 rfl rfl hd (hK _ _ _ _ h H locs ls hP hD hS hl)
    · exact h.elim
  · rename_i k i r
    split at h
    · rename_i f hs
      obtain ⟨q0, hq0⟩ := zc_get (α := α) (i + 1) hs (zce_row h.1)
      exact va_alen hx hb hKK hP q0 0 hq0 rfl rfl hd (hK _ _ _ _ h.2 H locs ls hP hD hS hl)
    · exact h.elim
  · exact h.elim
theorem zs_ireturn (X : zX p s m args meth c cc own nL D α A ret) (O : zOK l own cc R ret M) {K : zH} (hK : ∀ σ pc lv st, K σ pc lv st → zZ p l e R s m args below meth c nL D α A P σ pc lv st) {pc nx tg : Nat} {iv : Int32} {σ : zS} {lv : List (Option zV)} {st : List zV}  (hi : zIok cc (pc, .ireturn, nx, tg, iv) = true) (h : zex M P pc (.ireturn) nx tg iv σ lv st K) : zZ p l e R s m args below meth c nL D α A P σ pc lv st := by
  obtain ⟨hx, hb, hml, hown, hts, hKK, hnw, hA, hlk, hret⟩ := X
  simp only [zIok, Bool.and_eq_true, decide_eq_true_eq] at hi
  obtain ⟨hd, hle, hn⟩ := hi
  obtain rfl : nx = pc + 1 := by omega
  rw [Nat.add_sub_cancel_left] at hd
  intro H locs ls hP hD hS hl
  dsimp only [zex] at h
  split at h
  · rename_i x
    have fin : ∀ t : State, t.heap = H → P (some (.inl x)) σ → zQc D α A P args s (.returned (some (.int x))) t := fun t ht hp => ⟨⟨some (.inl x), σ, rfl, hp, by rw [ht]; exact hP, hD⟩, hS.F ht⟩
    have hrt := O.2.2.2.2.2
    unfold zpt at h
    split at h
    · rename_i ek
      rw [hrt, ek] at hret
      exact W.iret hx hb hret (fun t ht _ => fin t ht h) hS.2.2 hd hlk
    · rename_i ek
      rw [hrt, ek] at hret
      exact W.zret hx hb hret (by rcases h.1 with q | q <;> rw [q] <;> decide) (fun t ht _ => fin t ht h.2) hS.2.2 hd hlk
    · exact h.elim
  · exact h.elim
theorem zs_return (X : zX p s m args meth c cc own nL D α A ret) (O : zOK l own cc R ret M) {K : zH} (hK : ∀ σ pc lv st, K σ pc lv st → zZ p l e R s m args below meth c nL D α A P σ pc lv st) {pc nx tg : Nat} {iv : Int32} {σ : zS} {lv : List (Option zV)} {st : List zV}  (hi : zIok cc (pc, .return_, nx, tg, iv) = true) (h : zex M P pc (.return_) nx tg iv σ lv st K) : zZ p l e R s m args below meth c nL D α A P σ pc lv st := by
  obtain ⟨hx, hb, hml, hown, hts, hKK, hnw, hA, hlk, hret⟩ := X
  simp only [zIok, Bool.and_eq_true, decide_eq_true_eq] at hi
  obtain ⟨hd, hle, hn⟩ := hi
  obtain rfl : nx = pc + 1 := by omega
  rw [Nat.add_sub_cancel_left] at hd
  intro H locs ls hP hD hS hl
  dsimp only [zex] at h
  split at h
  · rename_i ek
    rw [O.2.2.2.2.2, ek] at hret
    exact W.vret hx hb hret (fun t ht _ => ⟨⟨none, σ, rfl, h, by rw [ht]; exact hP, hD⟩, hS.F ht⟩) hS.2.2 hd hlk
  · exact h.elim
end ZST
