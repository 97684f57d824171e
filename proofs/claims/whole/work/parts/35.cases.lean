/-! THE CLAIM OUT OF ONE WALK OF THE LAW'S BODY. Your part is whole_start (and what it stands on); all else here is the same for every law, but numbers. -/
def R_law : String := "CutTreeKeeperLaw"
def lw_P (b : Addr) (xs : List Int32) (args : Array Value) (s : State) : Prop := args = #[.ref b] ∧ s.IntsAt b xs ∧ xs.length ≤ 2048 ∧ (Jvm.Cond.and given_1 narrow_1).before args s = true
def lw_Q (_ : Array Value) (s : State) (o : Outcome) (t : State) : Prop := o = .returned (some (.int 1)) ∧ Framed s o t [] 600000 7302250
def lw_Z (below : List Frame) (a : Array Value) (s : State) : State → Prop := fun t => ∃ o, t.status = .running ∧ Ended t below o ∧ lw_Q a s o t
/-- the law's own end, with 1 on the stack, nothing written that was there before, its room as the claim has it -/
theorem lw_ret {p : Program} {l : Launch} {e : Env} {s : State} {m : MethodId} {below : List Frame} {meth : Method} {c : Code} {b : Nat} (hx : p.tables.exec = Jvm.exec) (hb : c.code = code) (hr : meth.sig.returnType = ret) (hlocks : meth.locks = false) {pc : Nat} {H : Heap} {ls : Array Slot} (hdg : decode code pc = .ok (.ireturn, 1)) : W p l e room_1 s m #[Value.ref b] below meth c H [] 600000 7302250 (lw_Z below #[Value.ref b] s) (F0 m pc ls [.int 1]) := by
  intro T hT X
  obtain ⟨fs, hret, hrun, hended, hW, hframe⟩ := X.leave (v := some (.int 1)) (hlocks := hlocks) (fun h => by rw [hr] at h; cases h)
  have hmeth' : T.vm.method? m = some meth := X.method'
  refine ⟨T.setFrames fs, ?_, .returned (some (.int 1)), hrun, hended, rfl, ⟨_, rfl⟩, hW, hframe⟩
  jvm_step X.here [X.here.top, hx, hb, hdg, hmeth', hr, ret, narrow_b1]
  (try refine ⟨rfl, ?_⟩); (try refine ⟨rfl, ?_⟩)
  first | (intro acts; rw [hret _ acts rfl rfl rfl]) | rw [hret _ _ rfl rfl rfl]
  exact Steps.refl _
/-- what holds at the law's entry: the machine, the code, the tables' words (any of lw_tbl by 'hts w (by decide +kernel)'), the script of L ints xs at the cell b, what the Statement gives of the start (any of its parts by flat_of_before) -/
def lw_At (p : Program) (s : State) (m : MethodId) (meth : Method) (c : Code) (b L : Nat) (xs : Nat → Int32) : Prop :=
  p.tables.exec = Jvm.exec ∧ c.code = code ∧ meth.sig.returnType = ret ∧ c.maxLocals = 4 ∧ s.vm.findClass R_law = some m.cls ∧ (∀ w ∈ lw_tbl, w.before #[Value.ref b] s = true) ∧ va_X b L xs s s.heap ∧ b < s.heap.size ∧ meth.locks = false ∧ (Jvm.Cond.and given_1 narrow_1).before #[Value.ref b] s = true
/-! THE LAW: its calls -/
theorem z_joinG {A0 : Nat → Prop} {D : va_G} {wr wc w1 : va_W} {H H1 : Heap} (hP : va_P D vwCl (wr ++ wc) H) (hD : va_D A0 (wr ++ wc)) (hk : ∀ q : Nat, q < H.size → ¬ va_A wc H.size q → H1[q]? = H[q]?) (hF : ∀ q, va_A wc H.size q → A0 q) (hP1 : va_P D vwCl w1 H1) (hD1 : va_D (va_A wc H.size) w1) : va_P D vwCl (wr ++ w1) H1 ∧ va_D A0 (wr ++ w1) := by
  have up : ∀ (k : Nat) (q : Nat × va_E), wr[k]? = some q → k < wr.length ∧ (wr ++ wc)[k]? = some q := by
    intro k q hq
    have hl := (List.getElem?_eq_some_iff.mp hq).1
    exact ⟨hl, by rw [List.getElem?_append_left hl]; exact hq⟩
  have apart : ∀ (k : Nat) (q : Nat × va_E), wr[k]? = some q → q.1 < H.size ∧ ¬ va_A wc H.size q.1 := by
    intro k q hq
    obtain ⟨h1, h2⟩ := up k q hq
    have hl := (hP k q h2).lt
    refine ⟨hl, fun h => ?_⟩
    rcases h with ⟨k2, e, h⟩ | h
    · have h3 : (wr ++ wc)[wr.length + k2]? = some (q.1, e) := by rw [List.getElem?_append_right (by omega), Nat.add_sub_cancel_left]; exact h
      have := hD.1 k (wr.length + k2) q (q.1, e) h2 h3 rfl
      omega
    · omega
  refine ⟨va_P.app (fun k q hq => ?_) hP1, va_D.app ⟨fun i j p q hp hq e => hD.1 i j p q (up i p hp).2 (up j q hq).2 e, fun k q hq => hD.2 k q (up k q hq).2⟩ (hD1.weaken (fun k q _ h => hF q.1 h)) (fun i j x9 y9 hx hy hxy => ?_)⟩
  · obtain ⟨g1, g2⟩ := apart k q hq
    exact (hP k q (up k q hq).2).kept (hk q.1 g1 g2)
  · exact (apart i x9 hx).2 (by rw [hxy]; exact hD1.2 j y9 hy)
theorem z_right {A0 : Nat → Prop} {D : va_G} {wr wc : va_W} {H : Heap} (hP : va_P D vwCl (wr ++ wc) H) (hD : va_D A0 (wr ++ wc)) : va_P D vwCl wc H ∧ va_D A0 wc := by
  have up : ∀ (k : Nat) (q : Nat × va_E), wc[k]? = some q → (wr ++ wc)[wr.length + k]? = some q := fun k q hq => by rw [List.getElem?_append_right (by omega), Nat.add_sub_cancel_left]; exact hq
  refine ⟨fun k q hq => hP _ q (up k q hq), fun i j p q hp hq e => ?_, fun k q hq => hD.2 _ q (up k q hq)⟩
  have := hD.1 _ _ p q (up i p hp) (up j q hq) e
  omega
theorem z_swapP {D : va_G} {X Y : va_W} {H : Heap} (h : va_P D vwCl (X ++ Y) H) : va_P D vwCl (Y ++ X) H := va_P.swap (a := []) h
theorem z_swapD {A : Nat → Prop} {X Y : va_W} (h : va_D A (X ++ Y)) : va_D A (Y ++ X) := va_D.swap (a := []) h
section ZLC
variable {p : Program} {l : Launch} {e : Env} {R : Room} {s : State} {m : MethodId} {args : Array Value} {below : List Frame} {meth : Method} {c : Code} {H : Heap} {locs : List Loc} {cells slots : Nat} {Q : State → Prop}
variable {pc : Nat} {ls : Array Slot} {rest st0 : List Value} {a : Array Value} {A0 A1 : Nat → Prop} {H0 : Heap} {free : Addr → Prop}
theorem z_callG {D : va_G} {α : zA} {P : zP} (hr : va_Run p l e R s m args below meth c H locs cells slots 0 0 (F0 m pc ls st0) rest (zQc D α A1 P a) free) (hS : va_S A0 H0 H locs) (hA : ∀ q, q < H.size → A1 q → A0 q) (hf : ∀ q, free q → A0 q)
    (kk : ∀ (r : Option zV) (σ : zS) (H1 : Heap) (locs1 : List Loc), P r σ → va_P D vwCl (zc α σ) H1 → va_D A1 (zc α σ) → (∀ q : Nat, q < H.size → ¬ A1 q → H1[q]? = H[q]?) → va_S A0 H0 H1 locs1 → W p l e R s m args below meth c H1 locs1 cells slots Q (F0 m (pc + 3) ls ((r.map (zv α)).toList ++ rest))) : W p l e R s m args below meth c H locs cells slots Q (F0 m pc ls st0) := by
  intro T hT X
  obtain ⟨v, st₀, t, T', L, h0, X', hL, e1, e2, ⟨⟨r, σ, hv, hp, hP1, hD1⟩, hz, hk⟩, st⟩ := hr T hT X
  cases hv
  rw [h0] at hz hk
  obtain ⟨t2, a1, b1⟩ := kk r σ T'.heap (locs ++ L) hp (by rw [e1]; exact hP1) hD1 (fun q h1 h2 => by rw [e1]; exact hk q h1 h2)
    ⟨Nat.le_trans hS.1 (by rw [e1]; exact hz), fun q h1 h2 => by rw [e1, hk q (Nat.lt_of_lt_of_le h1 hS.1) (fun z => h2 (hA q (Nat.lt_of_lt_of_le h1 hS.1) z))]; exact hS.2.1 q h1 h2, fun q hq => by
      rcases List.mem_append.mp hq with h | h
      · exact hS.2.2 q h
      · exact hf _ (hL q h)⟩ T' rfl X'
  exact ⟨t2, st t2 a1, b1⟩
theorem z_lcall {D : va_G} {α : zA} {P : zP} {A : Nat → Prop} {cc : ByteArray} {own : String} {nL : Nat} {y : MethodName} {cy : ByteArray} {mx : Nat} {rt : Option FieldType} {rm : Room} {C : zK} {σ : zS} {wr : va_W} {fs : List zV} {vs : List Value} (na idx ci : Nat) (as : List zV) (hx : p.tables.exec = Jvm.exec) (hb : c.code = cc) (hml : c.maxLocals = nL) (hown : s.vm.findClass own = some m.cls) (hts : ∀ w ∈ zAll, w.before args s = true) (hKK : va_K D vwCl (zty α) s) (hnw : ∀ w ∈ zNW, va_Nw w s) (hA : ∀ q, s.heap.size ≤ q → A q)
    (hM : zMet l y cy mx rt rm C) (hR : zRok R mx rm = true) (hY : zYok y cy mx rt na = true) (hL : zLk own idx ci y = true) (hlt : ci < 100) (hs : σ[0]? = some (.inl (ci, fs))) (h : C (.inr (.inl 0) :: as) σ P) (hvs : as.map (zv α) = vs) (hn : as.length = na) (hP : va_P D vwCl (wr ++ zc α σ) H) (hD : va_D A (wr ++ zc α σ)) (hS : va_S A s.heap H locs) (hsz : ls.size = nL) (hw : (rest.map fun v => v.category).sum ≤ 8) (hcs : cells ≤ R.cells ∧ slots ≤ R.slots) (hd : decode cc pc = .ok (.invokevirtual idx, 3)) (hstk : st0 = vs.reverse ++ .ref (α.1 0) :: rest)
    (kk : ∀ (r : Option zV) (σ' : zS) (H1 : Heap) (locs1 : List Loc), P r σ' → va_P D vwCl (wr ++ zc α σ') H1 → va_D A (wr ++ zc α σ') → va_S A s.heap H1 locs1 → W p l e R s m args below meth c H1 locs1 cells slots Q (F0 m (pc + 3) ls ((r.map (zv α)).toList ++ rest))) : W p l e R s m args below meth c H locs cells slots Q (F0 m pc ls st0) := by
  subst hvs
  obtain ⟨hrc, hrs, hfr, hlo⟩ := zRok_spec hR
  obtain ⟨y1, y2, y3, y4, y5⟩ := zYok_spec hY
  obtain ⟨hPc, hDc⟩ := z_right hP hD
  obtain ⟨q0, hq0⟩ := zc_get (α := α) 0 hs (x := (α.1 0, .inr (ci, fs.map (zv α)))) rfl
  obtain ⟨rr, hrr, -⟩ := hPc q0 _ hq0
  unfold zLk at hL
  rw [if_pos hlt, hrr] at hL
  simp only [Bool.and_eq_true, decide_eq_true_eq] at hL
  obtain ⟨l1, l2, l3, l4⟩ := hL
  have l1 := zMem_spec l1
  have l2 := zMem_spec l2
  have l3 := zMem_spec l3
  have hF := zFree (D := D) hDc hS hA
  refine z_callG (va_runV (C := y.cls) (As := as.map (zv α)) (b := α.1 0) (rest := rest) ⟨hx, hb, hml, hown, hts⟩ (hM D α H.size σ _ _ h) (cwV na hts ?_ rfl hrc hrs ⟨rfl, y3, y4, y5⟩ ⟨hfr, hlo⟩) ⟨zBlind, ?_, fun U hU hW => ⟨rfl, by rw [hU], by rw [hU]; exact hPc, va_K.moved hW.alike hKK, hDc.weaken (fun _ _ _ _ => trivial), zNw_warm hW hnw⟩⟩ rfl (by rw [List.length_map]; exact hn) hsz hstk (lv_room hw) hd ⟨hcs.1, hcs.2⟩) hS (fun q _ h => hF q h) hF (fun r σ' H1 locs1 hp hP1 hD1 hk1 hS1 => ?_)
  · intro w hw
    unfold wsV at hw
    rcases List.mem_append.mp hw with hw | hw
    · simp only [List.mem_cons, List.not_mem_nil, or_false] at hw
      rcases hw with rfl | rfl | rfl | rfl
      · exact ⟨l1, good_of_word (zAll_good l1)⟩
      · exact ⟨l2, good_of_word (zAll_good l2)⟩
      · exact ⟨l3, good_of_word (zAll_good l3)⟩
      · exact ⟨y2, good_of_word (zAll_good y2)⟩
    · exact zGood y1 w hw
  · have := va_recv hKK hPc hrr hq0
    rw [l4] at this
    exact this
  · obtain ⟨hP2, hD2⟩ := z_joinG hP hD hk1 hF hP1 hD1
    exact kk r σ' H1 locs1 hp hP2 hD2 hS1
end ZLC
theorem cSt_0 {a : AS} {σ : zS} (h : cSt a σ) : ∃ fs, σ[0]? = some (.inl (4, fs)) := by
  obtain ⟨x1, x2, x3, x4, x5, x6, x7, x8, x9, x10, x11, x12, x13, x14, x15, x16, x17, rfl, -⟩ := h
  exact ⟨_, rfl⟩
theorem mSt_0 {a : AS} {σ : zS} (h : mSt a σ) : ∃ fs, σ[0]? = some (.inl (5, fs)) := by
  obtain ⟨x1, x2, x3, x4, x5, x6, x7, x8, x9, x10, x11, x12, x13, x14, rfl, -⟩ := h
  exact ⟨_, rfl⟩
def LX (p : Program) (s : State) (m : MethodId) (meth : Method) (c : Code) (b L : Nat) (xs : Nat → Int32) (D : va_G) (α β : zA) : Prop := L ≤ 2048 ∧ lw_At p s m meth c b L xs ∧ va_K D vwCl (zty α) s ∧ va_K D vwCl (zty β) s ∧ ∀ w ∈ zNW, va_Nw w s
/-- at a place of the law's loop, with component and reference in one state -/
def LW (p : Program) (l : Launch) (e : Env) (s : State) (m : MethodId) (below : List Frame) (meth : Method) (c : Code) (b : Nat) (D : va_G) (α β : zA) (i pc : Nat) : Prop := ∀ (a : AS) (σC σM : zS) (H : Heap) (locs : List Loc) (ls : Array Slot), cSt a σC → mSt a σM → va_P D vwCl (zc β σM ++ zc α σC) H → va_D (fun q : Nat => s.heap.size ≤ q) (zc β σM ++ zc α σC) → va_S (fun q : Nat => s.heap.size ≤ q) s.heap H locs → lv_has ls 4 [(0, .ref b), (1, .ref (α.1 0)), (2, .ref (β.1 0)), (3, .int (nI i))] → W p l e room_1 s m #[Value.ref b] below meth c H locs 60 5200 (lw_Z below #[Value.ref b] s) (F0 m pc ls [])
theorem dL_law_0 : decode code 0 = .ok (.new 7, 3) := by decide +kernel
theorem dL_law_3 : decode code 3 = .ok (.dup, 1) := by decide +kernel
theorem dL_law_4 : decode code 4 = .ok (.invokespecial 9, 3) := by decide +kernel
theorem dL_law_7 : decode code 7 = .ok (.astore_n 1, 1) := by decide +kernel
theorem dL_law_8 : decode code 8 = .ok (.new 10, 3) := by decide +kernel
theorem dL_law_11 : decode code 11 = .ok (.dup, 1) := by decide +kernel
theorem dL_law_12 : decode code 12 = .ok (.invokespecial 12, 3) := by decide +kernel
theorem dL_law_15 : decode code 15 = .ok (.astore_n 2, 1) := by decide +kernel
theorem dL_law_16 : decode code 16 = .ok (.iconst 0, 1) := by decide +kernel
theorem dL_law_17 : decode code 17 = .ok (.istore_n 3, 1) := by decide +kernel
theorem dL_law_18 : decode code 18 = .ok (.iload_n 3, 1) := by decide +kernel
theorem dL_law_19 : decode code 19 = .ok (.aload_n 0, 1) := by decide +kernel
theorem dL_law_20 : decode code 20 = .ok (.arraylength, 1) := by decide +kernel
theorem dL_law_21 : decode code 21 = .ok (.iconst 4, 1) := by decide +kernel
theorem dL_law_22 : decode code 22 = .ok (.isub, 1) := by decide +kernel
theorem dL_law_23 : decode code 23 = .ok (.if_icmp .gt 685, 3) := by decide +kernel
theorem dL_law_26 : decode code 26 = .ok (.aload_n 0, 1) := by decide +kernel
theorem dL_law_27 : decode code 27 = .ok (.iload_n 3, 1) := by decide +kernel
theorem dL_law_28 : decode code 28 = .ok (.iaload, 1) := by decide +kernel
theorem dL_law_29 : decode code 29 = .ok (.bipush 31, 2) := by decide +kernel
theorem dL_law_31 : decode code 31 = .ok (.iand, 1) := by decide +kernel
theorem dL_law_32 : decode code 32 = .ok (.tableswitch 670 0 21 #[104, 127, 170, 183, 216, 239, 262, 275, 288, 311, 334, 357, 370, 403, 436, 469, 502, 545, 568, 591, 624, 647], 104) := by decide +kernel
theorem dL_law_136 : decode code 136 = .ok (.aload_n 1, 1) := by decide +kernel
theorem dL_law_137 : decode code 137 = .ok (.aload_n 0, 1) := by decide +kernel
theorem dL_law_138 : decode code 138 = .ok (.iload_n 3, 1) := by decide +kernel
theorem dL_law_139 : decode code 139 = .ok (.iconst 1, 1) := by decide +kernel
theorem dL_law_140 : decode code 140 = .ok (.iadd, 1) := by decide +kernel
theorem dL_law_141 : decode code 141 = .ok (.iaload, 1) := by decide +kernel
theorem dL_law_142 : decode code 142 = .ok (.invokevirtual 13, 3) := by decide +kernel
theorem dL_law_145 : decode code 145 = .ok (.aload_n 2, 1) := by decide +kernel
theorem dL_law_146 : decode code 146 = .ok (.aload_n 0, 1) := by decide +kernel
theorem dL_law_147 : decode code 147 = .ok (.iload_n 3, 1) := by decide +kernel
theorem dL_law_148 : decode code 148 = .ok (.iconst 1, 1) := by decide +kernel
theorem dL_law_149 : decode code 149 = .ok (.iadd, 1) := by decide +kernel
theorem dL_law_150 : decode code 150 = .ok (.iaload, 1) := by decide +kernel
theorem dL_law_151 : decode code 151 = .ok (.invokevirtual 17, 3) := by decide +kernel
theorem dL_law_154 : decode code 154 = .ok (.if_icmp .eq 548, 3) := by decide +kernel
theorem dL_law_157 : decode code 157 = .ok (.iconst 0, 1) := by decide +kernel
theorem dL_law_158 : decode code 158 = .ok (.ireturn, 1) := by decide +kernel
theorem dL_law_159 : decode code 159 = .ok (.aload_n 1, 1) := by decide +kernel
theorem dL_law_160 : decode code 160 = .ok (.aload_n 0, 1) := by decide +kernel
theorem dL_law_161 : decode code 161 = .ok (.iload_n 3, 1) := by decide +kernel
theorem dL_law_162 : decode code 162 = .ok (.iconst 1, 1) := by decide +kernel
theorem dL_law_163 : decode code 163 = .ok (.iadd, 1) := by decide +kernel
theorem dL_law_164 : decode code 164 = .ok (.iaload, 1) := by decide +kernel
theorem dL_law_165 : decode code 165 = .ok (.aload_n 0, 1) := by decide +kernel
theorem dL_law_166 : decode code 166 = .ok (.iload_n 3, 1) := by decide +kernel
theorem dL_law_167 : decode code 167 = .ok (.iconst 2, 1) := by decide +kernel
theorem dL_law_168 : decode code 168 = .ok (.iadd, 1) := by decide +kernel
theorem dL_law_169 : decode code 169 = .ok (.iaload, 1) := by decide +kernel
theorem dL_law_170 : decode code 170 = .ok (.aload_n 0, 1) := by decide +kernel
theorem dL_law_171 : decode code 171 = .ok (.iload_n 3, 1) := by decide +kernel
theorem dL_law_172 : decode code 172 = .ok (.iconst 3, 1) := by decide +kernel
theorem dL_law_173 : decode code 173 = .ok (.iadd, 1) := by decide +kernel
theorem dL_law_174 : decode code 174 = .ok (.iaload, 1) := by decide +kernel
theorem dL_law_175 : decode code 175 = .ok (.invokevirtual 18, 3) := by decide +kernel
theorem dL_law_178 : decode code 178 = .ok (.aload_n 2, 1) := by decide +kernel
theorem dL_law_179 : decode code 179 = .ok (.aload_n 0, 1) := by decide +kernel
theorem dL_law_180 : decode code 180 = .ok (.iload_n 3, 1) := by decide +kernel
theorem dL_law_181 : decode code 181 = .ok (.iconst 1, 1) := by decide +kernel
theorem dL_law_182 : decode code 182 = .ok (.iadd, 1) := by decide +kernel
theorem dL_law_183 : decode code 183 = .ok (.iaload, 1) := by decide +kernel
theorem dL_law_184 : decode code 184 = .ok (.aload_n 0, 1) := by decide +kernel
theorem dL_law_185 : decode code 185 = .ok (.iload_n 3, 1) := by decide +kernel
theorem dL_law_186 : decode code 186 = .ok (.iconst 2, 1) := by decide +kernel
theorem dL_law_187 : decode code 187 = .ok (.iadd, 1) := by decide +kernel
theorem dL_law_188 : decode code 188 = .ok (.iaload, 1) := by decide +kernel
theorem dL_law_189 : decode code 189 = .ok (.aload_n 0, 1) := by decide +kernel
theorem dL_law_190 : decode code 190 = .ok (.iload_n 3, 1) := by decide +kernel
theorem dL_law_191 : decode code 191 = .ok (.iconst 3, 1) := by decide +kernel
theorem dL_law_192 : decode code 192 = .ok (.iadd, 1) := by decide +kernel
theorem dL_law_193 : decode code 193 = .ok (.iaload, 1) := by decide +kernel
theorem dL_law_194 : decode code 194 = .ok (.invokevirtual 22, 3) := by decide +kernel
theorem dL_law_197 : decode code 197 = .ok (.if_icmp .eq 505, 3) := by decide +kernel
theorem dL_law_200 : decode code 200 = .ok (.iconst 0, 1) := by decide +kernel
theorem dL_law_201 : decode code 201 = .ok (.ireturn, 1) := by decide +kernel
theorem dL_law_202 : decode code 202 = .ok (.aload_n 1, 1) := by decide +kernel
theorem dL_law_203 : decode code 203 = .ok (.invokevirtual 23, 3) := by decide +kernel
theorem dL_law_206 : decode code 206 = .ok (.aload_n 2, 1) := by decide +kernel
theorem dL_law_207 : decode code 207 = .ok (.invokevirtual 27, 3) := by decide +kernel
theorem dL_law_210 : decode code 210 = .ok (.if_icmp .eq 492, 3) := by decide +kernel
theorem dL_law_213 : decode code 213 = .ok (.iconst 0, 1) := by decide +kernel
theorem dL_law_214 : decode code 214 = .ok (.ireturn, 1) := by decide +kernel
theorem dL_law_215 : decode code 215 = .ok (.aload_n 1, 1) := by decide +kernel
theorem dL_law_216 : decode code 216 = .ok (.aload_n 0, 1) := by decide +kernel
theorem dL_law_217 : decode code 217 = .ok (.iload_n 3, 1) := by decide +kernel
theorem dL_law_218 : decode code 218 = .ok (.iconst 1, 1) := by decide +kernel
theorem dL_law_219 : decode code 219 = .ok (.iadd, 1) := by decide +kernel
theorem dL_law_220 : decode code 220 = .ok (.iaload, 1) := by decide +kernel
theorem dL_law_221 : decode code 221 = .ok (.aload_n 0, 1) := by decide +kernel
theorem dL_law_222 : decode code 222 = .ok (.iload_n 3, 1) := by decide +kernel
theorem dL_law_223 : decode code 223 = .ok (.iconst 2, 1) := by decide +kernel
theorem dL_law_224 : decode code 224 = .ok (.iadd, 1) := by decide +kernel
theorem dL_law_225 : decode code 225 = .ok (.iaload, 1) := by decide +kernel
theorem dL_law_226 : decode code 226 = .ok (.invokevirtual 28, 3) := by decide +kernel
theorem dL_law_229 : decode code 229 = .ok (.aload_n 2, 1) := by decide +kernel
theorem dL_law_230 : decode code 230 = .ok (.aload_n 0, 1) := by decide +kernel
theorem dL_law_231 : decode code 231 = .ok (.iload_n 3, 1) := by decide +kernel
theorem dL_law_232 : decode code 232 = .ok (.iconst 1, 1) := by decide +kernel
theorem dL_law_233 : decode code 233 = .ok (.iadd, 1) := by decide +kernel
theorem dL_law_234 : decode code 234 = .ok (.iaload, 1) := by decide +kernel
theorem dL_law_235 : decode code 235 = .ok (.aload_n 0, 1) := by decide +kernel
theorem dL_law_236 : decode code 236 = .ok (.iload_n 3, 1) := by decide +kernel
theorem dL_law_237 : decode code 237 = .ok (.iconst 2, 1) := by decide +kernel
theorem dL_law_238 : decode code 238 = .ok (.iadd, 1) := by decide +kernel
theorem dL_law_239 : decode code 239 = .ok (.iaload, 1) := by decide +kernel
theorem dL_law_240 : decode code 240 = .ok (.invokevirtual 32, 3) := by decide +kernel
theorem dL_law_243 : decode code 243 = .ok (.if_icmp .eq 459, 3) := by decide +kernel
theorem dL_law_246 : decode code 246 = .ok (.iconst 0, 1) := by decide +kernel
theorem dL_law_247 : decode code 247 = .ok (.ireturn, 1) := by decide +kernel
theorem dL_law_248 : decode code 248 = .ok (.aload_n 1, 1) := by decide +kernel
theorem dL_law_249 : decode code 249 = .ok (.aload_n 0, 1) := by decide +kernel
theorem dL_law_250 : decode code 250 = .ok (.iload_n 3, 1) := by decide +kernel
theorem dL_law_251 : decode code 251 = .ok (.iconst 1, 1) := by decide +kernel
theorem dL_law_252 : decode code 252 = .ok (.iadd, 1) := by decide +kernel
theorem dL_law_253 : decode code 253 = .ok (.iaload, 1) := by decide +kernel
theorem dL_law_254 : decode code 254 = .ok (.invokevirtual 33, 3) := by decide +kernel
theorem dL_law_257 : decode code 257 = .ok (.aload_n 2, 1) := by decide +kernel
theorem dL_law_258 : decode code 258 = .ok (.aload_n 0, 1) := by decide +kernel
theorem dL_law_259 : decode code 259 = .ok (.iload_n 3, 1) := by decide +kernel
theorem dL_law_260 : decode code 260 = .ok (.iconst 1, 1) := by decide +kernel
theorem dL_law_261 : decode code 261 = .ok (.iadd, 1) := by decide +kernel
theorem dL_law_262 : decode code 262 = .ok (.iaload, 1) := by decide +kernel
theorem dL_law_263 : decode code 263 = .ok (.invokevirtual 36, 3) := by decide +kernel
theorem dL_law_266 : decode code 266 = .ok (.if_icmp .eq 436, 3) := by decide +kernel
theorem dL_law_269 : decode code 269 = .ok (.iconst 0, 1) := by decide +kernel
theorem dL_law_270 : decode code 270 = .ok (.ireturn, 1) := by decide +kernel
theorem dL_law_271 : decode code 271 = .ok (.aload_n 1, 1) := by decide +kernel
theorem dL_law_272 : decode code 272 = .ok (.aload_n 0, 1) := by decide +kernel
theorem dL_law_273 : decode code 273 = .ok (.iload_n 3, 1) := by decide +kernel
theorem dL_law_274 : decode code 274 = .ok (.iconst 1, 1) := by decide +kernel
theorem dL_law_275 : decode code 275 = .ok (.iadd, 1) := by decide +kernel
theorem dL_law_276 : decode code 276 = .ok (.iaload, 1) := by decide +kernel
theorem dL_law_277 : decode code 277 = .ok (.invokevirtual 37, 3) := by decide +kernel
theorem dL_law_280 : decode code 280 = .ok (.aload_n 2, 1) := by decide +kernel
theorem dL_law_281 : decode code 281 = .ok (.aload_n 0, 1) := by decide +kernel
theorem dL_law_282 : decode code 282 = .ok (.iload_n 3, 1) := by decide +kernel
theorem dL_law_283 : decode code 283 = .ok (.iconst 1, 1) := by decide +kernel
theorem dL_law_284 : decode code 284 = .ok (.iadd, 1) := by decide +kernel
theorem dL_law_285 : decode code 285 = .ok (.iaload, 1) := by decide +kernel
theorem dL_law_286 : decode code 286 = .ok (.invokevirtual 40, 3) := by decide +kernel
theorem dL_law_289 : decode code 289 = .ok (.if_icmp .eq 413, 3) := by decide +kernel
theorem dL_law_292 : decode code 292 = .ok (.iconst 0, 1) := by decide +kernel
theorem dL_law_293 : decode code 293 = .ok (.ireturn, 1) := by decide +kernel
theorem dL_law_294 : decode code 294 = .ok (.aload_n 1, 1) := by decide +kernel
theorem dL_law_295 : decode code 295 = .ok (.invokevirtual 41, 3) := by decide +kernel
theorem dL_law_298 : decode code 298 = .ok (.aload_n 2, 1) := by decide +kernel
theorem dL_law_299 : decode code 299 = .ok (.invokevirtual 44, 3) := by decide +kernel
theorem dL_law_302 : decode code 302 = .ok (.if_icmp .eq 400, 3) := by decide +kernel
theorem dL_law_305 : decode code 305 = .ok (.iconst 0, 1) := by decide +kernel
theorem dL_law_306 : decode code 306 = .ok (.ireturn, 1) := by decide +kernel
theorem dL_law_307 : decode code 307 = .ok (.aload_n 1, 1) := by decide +kernel
theorem dL_law_308 : decode code 308 = .ok (.invokevirtual 45, 3) := by decide +kernel
theorem dL_law_311 : decode code 311 = .ok (.aload_n 2, 1) := by decide +kernel
theorem dL_law_312 : decode code 312 = .ok (.invokevirtual 48, 3) := by decide +kernel
theorem dL_law_315 : decode code 315 = .ok (.if_icmp .eq 387, 3) := by decide +kernel
theorem dL_law_318 : decode code 318 = .ok (.iconst 0, 1) := by decide +kernel
theorem dL_law_319 : decode code 319 = .ok (.ireturn, 1) := by decide +kernel
theorem dL_law_320 : decode code 320 = .ok (.aload_n 1, 1) := by decide +kernel
theorem dL_law_321 : decode code 321 = .ok (.aload_n 0, 1) := by decide +kernel
theorem dL_law_322 : decode code 322 = .ok (.iload_n 3, 1) := by decide +kernel
theorem dL_law_323 : decode code 323 = .ok (.iconst 1, 1) := by decide +kernel
theorem dL_law_324 : decode code 324 = .ok (.iadd, 1) := by decide +kernel
theorem dL_law_325 : decode code 325 = .ok (.iaload, 1) := by decide +kernel
theorem dL_law_326 : decode code 326 = .ok (.invokevirtual 49, 3) := by decide +kernel
theorem dL_law_329 : decode code 329 = .ok (.aload_n 2, 1) := by decide +kernel
theorem dL_law_330 : decode code 330 = .ok (.aload_n 0, 1) := by decide +kernel
theorem dL_law_331 : decode code 331 = .ok (.iload_n 3, 1) := by decide +kernel
theorem dL_law_332 : decode code 332 = .ok (.iconst 1, 1) := by decide +kernel
theorem dL_law_333 : decode code 333 = .ok (.iadd, 1) := by decide +kernel
theorem dL_law_334 : decode code 334 = .ok (.iaload, 1) := by decide +kernel
theorem dL_law_335 : decode code 335 = .ok (.invokevirtual 52, 3) := by decide +kernel
theorem dL_law_338 : decode code 338 = .ok (.if_icmp .eq 364, 3) := by decide +kernel
theorem dL_law_341 : decode code 341 = .ok (.iconst 0, 1) := by decide +kernel
theorem dL_law_342 : decode code 342 = .ok (.ireturn, 1) := by decide +kernel
theorem dL_law_343 : decode code 343 = .ok (.aload_n 1, 1) := by decide +kernel
theorem dL_law_344 : decode code 344 = .ok (.aload_n 0, 1) := by decide +kernel
theorem dL_law_345 : decode code 345 = .ok (.iload_n 3, 1) := by decide +kernel
theorem dL_law_346 : decode code 346 = .ok (.iconst 1, 1) := by decide +kernel
theorem dL_law_347 : decode code 347 = .ok (.iadd, 1) := by decide +kernel
theorem dL_law_348 : decode code 348 = .ok (.iaload, 1) := by decide +kernel
theorem dL_law_349 : decode code 349 = .ok (.invokevirtual 53, 3) := by decide +kernel
theorem dL_law_352 : decode code 352 = .ok (.aload_n 2, 1) := by decide +kernel
theorem dL_law_353 : decode code 353 = .ok (.aload_n 0, 1) := by decide +kernel
theorem dL_law_354 : decode code 354 = .ok (.iload_n 3, 1) := by decide +kernel
theorem dL_law_355 : decode code 355 = .ok (.iconst 1, 1) := by decide +kernel
theorem dL_law_356 : decode code 356 = .ok (.iadd, 1) := by decide +kernel
theorem dL_law_357 : decode code 357 = .ok (.iaload, 1) := by decide +kernel
theorem dL_law_358 : decode code 358 = .ok (.invokevirtual 56, 3) := by decide +kernel
theorem dL_law_361 : decode code 361 = .ok (.if_icmp .eq 341, 3) := by decide +kernel
theorem dL_law_364 : decode code 364 = .ok (.iconst 0, 1) := by decide +kernel
theorem dL_law_365 : decode code 365 = .ok (.ireturn, 1) := by decide +kernel
theorem dL_law_366 : decode code 366 = .ok (.aload_n 1, 1) := by decide +kernel
theorem dL_law_367 : decode code 367 = .ok (.aload_n 0, 1) := by decide +kernel
theorem dL_law_368 : decode code 368 = .ok (.iload_n 3, 1) := by decide +kernel
theorem dL_law_369 : decode code 369 = .ok (.iconst 1, 1) := by decide +kernel
theorem dL_law_370 : decode code 370 = .ok (.iadd, 1) := by decide +kernel
theorem dL_law_371 : decode code 371 = .ok (.iaload, 1) := by decide +kernel
theorem dL_law_372 : decode code 372 = .ok (.invokevirtual 57, 3) := by decide +kernel
theorem dL_law_375 : decode code 375 = .ok (.aload_n 2, 1) := by decide +kernel
theorem dL_law_376 : decode code 376 = .ok (.aload_n 0, 1) := by decide +kernel
theorem dL_law_377 : decode code 377 = .ok (.iload_n 3, 1) := by decide +kernel
theorem dL_law_378 : decode code 378 = .ok (.iconst 1, 1) := by decide +kernel
theorem dL_law_379 : decode code 379 = .ok (.iadd, 1) := by decide +kernel
theorem dL_law_380 : decode code 380 = .ok (.iaload, 1) := by decide +kernel
theorem dL_law_381 : decode code 381 = .ok (.invokevirtual 60, 3) := by decide +kernel
theorem dL_law_384 : decode code 384 = .ok (.if_icmp .eq 318, 3) := by decide +kernel
theorem dL_law_387 : decode code 387 = .ok (.iconst 0, 1) := by decide +kernel
theorem dL_law_388 : decode code 388 = .ok (.ireturn, 1) := by decide +kernel
theorem dL_law_389 : decode code 389 = .ok (.aload_n 1, 1) := by decide +kernel
theorem dL_law_390 : decode code 390 = .ok (.invokevirtual 61, 3) := by decide +kernel
theorem dL_law_393 : decode code 393 = .ok (.aload_n 2, 1) := by decide +kernel
theorem dL_law_394 : decode code 394 = .ok (.invokevirtual 64, 3) := by decide +kernel
theorem dL_law_397 : decode code 397 = .ok (.if_icmp .eq 305, 3) := by decide +kernel
theorem dL_law_400 : decode code 400 = .ok (.iconst 0, 1) := by decide +kernel
theorem dL_law_401 : decode code 401 = .ok (.ireturn, 1) := by decide +kernel
theorem dL_law_402 : decode code 402 = .ok (.aload_n 1, 1) := by decide +kernel
theorem dL_law_403 : decode code 403 = .ok (.aload_n 0, 1) := by decide +kernel
theorem dL_law_404 : decode code 404 = .ok (.iload_n 3, 1) := by decide +kernel
theorem dL_law_405 : decode code 405 = .ok (.iconst 1, 1) := by decide +kernel
theorem dL_law_406 : decode code 406 = .ok (.iadd, 1) := by decide +kernel
theorem dL_law_407 : decode code 407 = .ok (.iaload, 1) := by decide +kernel
theorem dL_law_408 : decode code 408 = .ok (.aload_n 0, 1) := by decide +kernel
theorem dL_law_409 : decode code 409 = .ok (.iload_n 3, 1) := by decide +kernel
theorem dL_law_410 : decode code 410 = .ok (.iconst 2, 1) := by decide +kernel
theorem dL_law_411 : decode code 411 = .ok (.iadd, 1) := by decide +kernel
theorem dL_law_412 : decode code 412 = .ok (.iaload, 1) := by decide +kernel
theorem dL_law_413 : decode code 413 = .ok (.invokevirtual 65, 3) := by decide +kernel
theorem dL_law_416 : decode code 416 = .ok (.aload_n 2, 1) := by decide +kernel
theorem dL_law_417 : decode code 417 = .ok (.aload_n 0, 1) := by decide +kernel
theorem dL_law_418 : decode code 418 = .ok (.iload_n 3, 1) := by decide +kernel
theorem dL_law_419 : decode code 419 = .ok (.iconst 1, 1) := by decide +kernel
theorem dL_law_420 : decode code 420 = .ok (.iadd, 1) := by decide +kernel
theorem dL_law_421 : decode code 421 = .ok (.iaload, 1) := by decide +kernel
theorem dL_law_422 : decode code 422 = .ok (.aload_n 0, 1) := by decide +kernel
theorem dL_law_423 : decode code 423 = .ok (.iload_n 3, 1) := by decide +kernel
theorem dL_law_424 : decode code 424 = .ok (.iconst 2, 1) := by decide +kernel
theorem dL_law_425 : decode code 425 = .ok (.iadd, 1) := by decide +kernel
theorem dL_law_426 : decode code 426 = .ok (.iaload, 1) := by decide +kernel
theorem dL_law_427 : decode code 427 = .ok (.invokevirtual 68, 3) := by decide +kernel
theorem dL_law_430 : decode code 430 = .ok (.if_icmp .eq 272, 3) := by decide +kernel
theorem dL_law_433 : decode code 433 = .ok (.iconst 0, 1) := by decide +kernel
theorem dL_law_434 : decode code 434 = .ok (.ireturn, 1) := by decide +kernel
theorem dL_law_435 : decode code 435 = .ok (.aload_n 1, 1) := by decide +kernel
theorem dL_law_436 : decode code 436 = .ok (.aload_n 0, 1) := by decide +kernel
theorem dL_law_437 : decode code 437 = .ok (.iload_n 3, 1) := by decide +kernel
theorem dL_law_438 : decode code 438 = .ok (.iconst 1, 1) := by decide +kernel
theorem dL_law_439 : decode code 439 = .ok (.iadd, 1) := by decide +kernel
theorem dL_law_440 : decode code 440 = .ok (.iaload, 1) := by decide +kernel
theorem dL_law_441 : decode code 441 = .ok (.aload_n 0, 1) := by decide +kernel
theorem dL_law_442 : decode code 442 = .ok (.iload_n 3, 1) := by decide +kernel
theorem dL_law_443 : decode code 443 = .ok (.iconst 2, 1) := by decide +kernel
theorem dL_law_444 : decode code 444 = .ok (.iadd, 1) := by decide +kernel
theorem dL_law_445 : decode code 445 = .ok (.iaload, 1) := by decide +kernel
theorem dL_law_446 : decode code 446 = .ok (.invokevirtual 69, 3) := by decide +kernel
theorem dL_law_449 : decode code 449 = .ok (.aload_n 2, 1) := by decide +kernel
theorem dL_law_450 : decode code 450 = .ok (.aload_n 0, 1) := by decide +kernel
theorem dL_law_451 : decode code 451 = .ok (.iload_n 3, 1) := by decide +kernel
theorem dL_law_452 : decode code 452 = .ok (.iconst 1, 1) := by decide +kernel
theorem dL_law_453 : decode code 453 = .ok (.iadd, 1) := by decide +kernel
theorem dL_law_454 : decode code 454 = .ok (.iaload, 1) := by decide +kernel
theorem dL_law_455 : decode code 455 = .ok (.aload_n 0, 1) := by decide +kernel
theorem dL_law_456 : decode code 456 = .ok (.iload_n 3, 1) := by decide +kernel
theorem dL_law_457 : decode code 457 = .ok (.iconst 2, 1) := by decide +kernel
theorem dL_law_458 : decode code 458 = .ok (.iadd, 1) := by decide +kernel
theorem dL_law_459 : decode code 459 = .ok (.iaload, 1) := by decide +kernel
theorem dL_law_460 : decode code 460 = .ok (.invokevirtual 72, 3) := by decide +kernel
theorem dL_law_463 : decode code 463 = .ok (.if_icmp .eq 239, 3) := by decide +kernel
theorem dL_law_466 : decode code 466 = .ok (.iconst 0, 1) := by decide +kernel
theorem dL_law_467 : decode code 467 = .ok (.ireturn, 1) := by decide +kernel
theorem dL_law_468 : decode code 468 = .ok (.aload_n 1, 1) := by decide +kernel
theorem dL_law_469 : decode code 469 = .ok (.aload_n 0, 1) := by decide +kernel
theorem dL_law_470 : decode code 470 = .ok (.iload_n 3, 1) := by decide +kernel
theorem dL_law_471 : decode code 471 = .ok (.iconst 1, 1) := by decide +kernel
theorem dL_law_472 : decode code 472 = .ok (.iadd, 1) := by decide +kernel
theorem dL_law_473 : decode code 473 = .ok (.iaload, 1) := by decide +kernel
theorem dL_law_474 : decode code 474 = .ok (.aload_n 0, 1) := by decide +kernel
theorem dL_law_475 : decode code 475 = .ok (.iload_n 3, 1) := by decide +kernel
theorem dL_law_476 : decode code 476 = .ok (.iconst 2, 1) := by decide +kernel
theorem dL_law_477 : decode code 477 = .ok (.iadd, 1) := by decide +kernel
theorem dL_law_478 : decode code 478 = .ok (.iaload, 1) := by decide +kernel
theorem dL_law_479 : decode code 479 = .ok (.invokevirtual 73, 3) := by decide +kernel
theorem dL_law_482 : decode code 482 = .ok (.aload_n 2, 1) := by decide +kernel
theorem dL_law_483 : decode code 483 = .ok (.aload_n 0, 1) := by decide +kernel
theorem dL_law_484 : decode code 484 = .ok (.iload_n 3, 1) := by decide +kernel
theorem dL_law_485 : decode code 485 = .ok (.iconst 1, 1) := by decide +kernel
theorem dL_law_486 : decode code 486 = .ok (.iadd, 1) := by decide +kernel
theorem dL_law_487 : decode code 487 = .ok (.iaload, 1) := by decide +kernel
theorem dL_law_488 : decode code 488 = .ok (.aload_n 0, 1) := by decide +kernel
theorem dL_law_489 : decode code 489 = .ok (.iload_n 3, 1) := by decide +kernel
theorem dL_law_490 : decode code 490 = .ok (.iconst 2, 1) := by decide +kernel
theorem dL_law_491 : decode code 491 = .ok (.iadd, 1) := by decide +kernel
theorem dL_law_492 : decode code 492 = .ok (.iaload, 1) := by decide +kernel
theorem dL_law_493 : decode code 493 = .ok (.invokevirtual 76, 3) := by decide +kernel
theorem dL_law_496 : decode code 496 = .ok (.if_icmp .eq 206, 3) := by decide +kernel
theorem dL_law_499 : decode code 499 = .ok (.iconst 0, 1) := by decide +kernel
theorem dL_law_500 : decode code 500 = .ok (.ireturn, 1) := by decide +kernel
theorem dL_law_501 : decode code 501 = .ok (.aload_n 1, 1) := by decide +kernel
theorem dL_law_502 : decode code 502 = .ok (.aload_n 0, 1) := by decide +kernel
theorem dL_law_503 : decode code 503 = .ok (.iload_n 3, 1) := by decide +kernel
theorem dL_law_504 : decode code 504 = .ok (.iconst 1, 1) := by decide +kernel
theorem dL_law_505 : decode code 505 = .ok (.iadd, 1) := by decide +kernel
theorem dL_law_506 : decode code 506 = .ok (.iaload, 1) := by decide +kernel
theorem dL_law_507 : decode code 507 = .ok (.aload_n 0, 1) := by decide +kernel
theorem dL_law_508 : decode code 508 = .ok (.iload_n 3, 1) := by decide +kernel
theorem dL_law_509 : decode code 509 = .ok (.iconst 2, 1) := by decide +kernel
theorem dL_law_510 : decode code 510 = .ok (.iadd, 1) := by decide +kernel
theorem dL_law_511 : decode code 511 = .ok (.iaload, 1) := by decide +kernel
theorem dL_law_512 : decode code 512 = .ok (.invokevirtual 77, 3) := by decide +kernel
theorem dL_law_515 : decode code 515 = .ok (.aload_n 2, 1) := by decide +kernel
theorem dL_law_516 : decode code 516 = .ok (.aload_n 0, 1) := by decide +kernel
theorem dL_law_517 : decode code 517 = .ok (.iload_n 3, 1) := by decide +kernel
theorem dL_law_518 : decode code 518 = .ok (.iconst 1, 1) := by decide +kernel
theorem dL_law_519 : decode code 519 = .ok (.iadd, 1) := by decide +kernel
theorem dL_law_520 : decode code 520 = .ok (.iaload, 1) := by decide +kernel
theorem dL_law_521 : decode code 521 = .ok (.aload_n 0, 1) := by decide +kernel
theorem dL_law_522 : decode code 522 = .ok (.iload_n 3, 1) := by decide +kernel
theorem dL_law_523 : decode code 523 = .ok (.iconst 2, 1) := by decide +kernel
theorem dL_law_524 : decode code 524 = .ok (.iadd, 1) := by decide +kernel
theorem dL_law_525 : decode code 525 = .ok (.iaload, 1) := by decide +kernel
theorem dL_law_526 : decode code 526 = .ok (.invokevirtual 80, 3) := by decide +kernel
theorem dL_law_529 : decode code 529 = .ok (.if_icmp .eq 173, 3) := by decide +kernel
theorem dL_law_532 : decode code 532 = .ok (.iconst 0, 1) := by decide +kernel
theorem dL_law_533 : decode code 533 = .ok (.ireturn, 1) := by decide +kernel
theorem dL_law_534 : decode code 534 = .ok (.aload_n 1, 1) := by decide +kernel
theorem dL_law_535 : decode code 535 = .ok (.aload_n 0, 1) := by decide +kernel
theorem dL_law_536 : decode code 536 = .ok (.iload_n 3, 1) := by decide +kernel
theorem dL_law_537 : decode code 537 = .ok (.iconst 1, 1) := by decide +kernel
theorem dL_law_538 : decode code 538 = .ok (.iadd, 1) := by decide +kernel
theorem dL_law_539 : decode code 539 = .ok (.iaload, 1) := by decide +kernel
theorem dL_law_540 : decode code 540 = .ok (.aload_n 0, 1) := by decide +kernel
theorem dL_law_541 : decode code 541 = .ok (.iload_n 3, 1) := by decide +kernel
theorem dL_law_542 : decode code 542 = .ok (.iconst 2, 1) := by decide +kernel
theorem dL_law_543 : decode code 543 = .ok (.iadd, 1) := by decide +kernel
theorem dL_law_544 : decode code 544 = .ok (.iaload, 1) := by decide +kernel
theorem dL_law_545 : decode code 545 = .ok (.aload_n 0, 1) := by decide +kernel
theorem dL_law_546 : decode code 546 = .ok (.iload_n 3, 1) := by decide +kernel
theorem dL_law_547 : decode code 547 = .ok (.iconst 3, 1) := by decide +kernel
theorem dL_law_548 : decode code 548 = .ok (.iadd, 1) := by decide +kernel
theorem dL_law_549 : decode code 549 = .ok (.iaload, 1) := by decide +kernel
theorem dL_law_550 : decode code 550 = .ok (.invokevirtual 81, 3) := by decide +kernel
theorem dL_law_553 : decode code 553 = .ok (.aload_n 2, 1) := by decide +kernel
theorem dL_law_554 : decode code 554 = .ok (.aload_n 0, 1) := by decide +kernel
theorem dL_law_555 : decode code 555 = .ok (.iload_n 3, 1) := by decide +kernel
theorem dL_law_556 : decode code 556 = .ok (.iconst 1, 1) := by decide +kernel
theorem dL_law_557 : decode code 557 = .ok (.iadd, 1) := by decide +kernel
theorem dL_law_558 : decode code 558 = .ok (.iaload, 1) := by decide +kernel
theorem dL_law_559 : decode code 559 = .ok (.aload_n 0, 1) := by decide +kernel
theorem dL_law_560 : decode code 560 = .ok (.iload_n 3, 1) := by decide +kernel
theorem dL_law_561 : decode code 561 = .ok (.iconst 2, 1) := by decide +kernel
theorem dL_law_562 : decode code 562 = .ok (.iadd, 1) := by decide +kernel
theorem dL_law_563 : decode code 563 = .ok (.iaload, 1) := by decide +kernel
theorem dL_law_564 : decode code 564 = .ok (.aload_n 0, 1) := by decide +kernel
theorem dL_law_565 : decode code 565 = .ok (.iload_n 3, 1) := by decide +kernel
theorem dL_law_566 : decode code 566 = .ok (.iconst 3, 1) := by decide +kernel
theorem dL_law_567 : decode code 567 = .ok (.iadd, 1) := by decide +kernel
theorem dL_law_568 : decode code 568 = .ok (.iaload, 1) := by decide +kernel
theorem dL_law_569 : decode code 569 = .ok (.invokevirtual 84, 3) := by decide +kernel
theorem dL_law_572 : decode code 572 = .ok (.if_icmp .eq 130, 3) := by decide +kernel
theorem dL_law_575 : decode code 575 = .ok (.iconst 0, 1) := by decide +kernel
theorem dL_law_576 : decode code 576 = .ok (.ireturn, 1) := by decide +kernel
theorem dL_law_577 : decode code 577 = .ok (.aload_n 1, 1) := by decide +kernel
theorem dL_law_578 : decode code 578 = .ok (.aload_n 0, 1) := by decide +kernel
theorem dL_law_579 : decode code 579 = .ok (.iload_n 3, 1) := by decide +kernel
theorem dL_law_580 : decode code 580 = .ok (.iconst 1, 1) := by decide +kernel
theorem dL_law_581 : decode code 581 = .ok (.iadd, 1) := by decide +kernel
theorem dL_law_582 : decode code 582 = .ok (.iaload, 1) := by decide +kernel
theorem dL_law_583 : decode code 583 = .ok (.invokevirtual 85, 3) := by decide +kernel
theorem dL_law_586 : decode code 586 = .ok (.aload_n 2, 1) := by decide +kernel
theorem dL_law_587 : decode code 587 = .ok (.aload_n 0, 1) := by decide +kernel
theorem dL_law_588 : decode code 588 = .ok (.iload_n 3, 1) := by decide +kernel
theorem dL_law_589 : decode code 589 = .ok (.iconst 1, 1) := by decide +kernel
theorem dL_law_590 : decode code 590 = .ok (.iadd, 1) := by decide +kernel
theorem dL_law_591 : decode code 591 = .ok (.iaload, 1) := by decide +kernel
theorem dL_law_592 : decode code 592 = .ok (.invokevirtual 88, 3) := by decide +kernel
theorem dL_law_595 : decode code 595 = .ok (.if_icmp .eq 107, 3) := by decide +kernel
theorem dL_law_598 : decode code 598 = .ok (.iconst 0, 1) := by decide +kernel
theorem dL_law_599 : decode code 599 = .ok (.ireturn, 1) := by decide +kernel
theorem dL_law_600 : decode code 600 = .ok (.aload_n 1, 1) := by decide +kernel
theorem dL_law_601 : decode code 601 = .ok (.aload_n 0, 1) := by decide +kernel
theorem dL_law_602 : decode code 602 = .ok (.iload_n 3, 1) := by decide +kernel
theorem dL_law_603 : decode code 603 = .ok (.iconst 1, 1) := by decide +kernel
theorem dL_law_604 : decode code 604 = .ok (.iadd, 1) := by decide +kernel
theorem dL_law_605 : decode code 605 = .ok (.iaload, 1) := by decide +kernel
theorem dL_law_606 : decode code 606 = .ok (.invokevirtual 89, 3) := by decide +kernel
theorem dL_law_609 : decode code 609 = .ok (.aload_n 2, 1) := by decide +kernel
theorem dL_law_610 : decode code 610 = .ok (.aload_n 0, 1) := by decide +kernel
theorem dL_law_611 : decode code 611 = .ok (.iload_n 3, 1) := by decide +kernel
theorem dL_law_612 : decode code 612 = .ok (.iconst 1, 1) := by decide +kernel
theorem dL_law_613 : decode code 613 = .ok (.iadd, 1) := by decide +kernel
theorem dL_law_614 : decode code 614 = .ok (.iaload, 1) := by decide +kernel
theorem dL_law_615 : decode code 615 = .ok (.invokevirtual 92, 3) := by decide +kernel
theorem dL_law_618 : decode code 618 = .ok (.if_icmp .eq 84, 3) := by decide +kernel
theorem dL_law_621 : decode code 621 = .ok (.iconst 0, 1) := by decide +kernel
theorem dL_law_622 : decode code 622 = .ok (.ireturn, 1) := by decide +kernel
theorem dL_law_623 : decode code 623 = .ok (.aload_n 1, 1) := by decide +kernel
theorem dL_law_624 : decode code 624 = .ok (.aload_n 0, 1) := by decide +kernel
theorem dL_law_625 : decode code 625 = .ok (.iload_n 3, 1) := by decide +kernel
theorem dL_law_626 : decode code 626 = .ok (.iconst 1, 1) := by decide +kernel
theorem dL_law_627 : decode code 627 = .ok (.iadd, 1) := by decide +kernel
theorem dL_law_628 : decode code 628 = .ok (.iaload, 1) := by decide +kernel
theorem dL_law_629 : decode code 629 = .ok (.aload_n 0, 1) := by decide +kernel
theorem dL_law_630 : decode code 630 = .ok (.iload_n 3, 1) := by decide +kernel
theorem dL_law_631 : decode code 631 = .ok (.iconst 2, 1) := by decide +kernel
theorem dL_law_632 : decode code 632 = .ok (.iadd, 1) := by decide +kernel
theorem dL_law_633 : decode code 633 = .ok (.iaload, 1) := by decide +kernel
theorem dL_law_634 : decode code 634 = .ok (.invokevirtual 93, 3) := by decide +kernel
theorem dL_law_637 : decode code 637 = .ok (.aload_n 2, 1) := by decide +kernel
theorem dL_law_638 : decode code 638 = .ok (.aload_n 0, 1) := by decide +kernel
theorem dL_law_639 : decode code 639 = .ok (.iload_n 3, 1) := by decide +kernel
theorem dL_law_640 : decode code 640 = .ok (.iconst 1, 1) := by decide +kernel
theorem dL_law_641 : decode code 641 = .ok (.iadd, 1) := by decide +kernel
theorem dL_law_642 : decode code 642 = .ok (.iaload, 1) := by decide +kernel
theorem dL_law_643 : decode code 643 = .ok (.aload_n 0, 1) := by decide +kernel
theorem dL_law_644 : decode code 644 = .ok (.iload_n 3, 1) := by decide +kernel
theorem dL_law_645 : decode code 645 = .ok (.iconst 2, 1) := by decide +kernel
theorem dL_law_646 : decode code 646 = .ok (.iadd, 1) := by decide +kernel
theorem dL_law_647 : decode code 647 = .ok (.iaload, 1) := by decide +kernel
theorem dL_law_648 : decode code 648 = .ok (.invokevirtual 96, 3) := by decide +kernel
theorem dL_law_651 : decode code 651 = .ok (.if_icmp .eq 51, 3) := by decide +kernel
theorem dL_law_654 : decode code 654 = .ok (.iconst 0, 1) := by decide +kernel
theorem dL_law_655 : decode code 655 = .ok (.ireturn, 1) := by decide +kernel
theorem dL_law_656 : decode code 656 = .ok (.aload_n 1, 1) := by decide +kernel
theorem dL_law_657 : decode code 657 = .ok (.aload_n 0, 1) := by decide +kernel
theorem dL_law_658 : decode code 658 = .ok (.iload_n 3, 1) := by decide +kernel
theorem dL_law_659 : decode code 659 = .ok (.iconst 1, 1) := by decide +kernel
theorem dL_law_660 : decode code 660 = .ok (.iadd, 1) := by decide +kernel
theorem dL_law_661 : decode code 661 = .ok (.iaload, 1) := by decide +kernel
theorem dL_law_662 : decode code 662 = .ok (.invokevirtual 97, 3) := by decide +kernel
theorem dL_law_665 : decode code 665 = .ok (.aload_n 2, 1) := by decide +kernel
theorem dL_law_666 : decode code 666 = .ok (.aload_n 0, 1) := by decide +kernel
theorem dL_law_667 : decode code 667 = .ok (.iload_n 3, 1) := by decide +kernel
theorem dL_law_668 : decode code 668 = .ok (.iconst 1, 1) := by decide +kernel
theorem dL_law_669 : decode code 669 = .ok (.iadd, 1) := by decide +kernel
theorem dL_law_670 : decode code 670 = .ok (.iaload, 1) := by decide +kernel
theorem dL_law_671 : decode code 671 = .ok (.invokevirtual 100, 3) := by decide +kernel
theorem dL_law_674 : decode code 674 = .ok (.if_icmp .eq 28, 3) := by decide +kernel
theorem dL_law_677 : decode code 677 = .ok (.iconst 0, 1) := by decide +kernel
theorem dL_law_678 : decode code 678 = .ok (.ireturn, 1) := by decide +kernel
theorem dL_law_679 : decode code 679 = .ok (.aload_n 1, 1) := by decide +kernel
theorem dL_law_680 : decode code 680 = .ok (.aload_n 0, 1) := by decide +kernel
theorem dL_law_681 : decode code 681 = .ok (.iload_n 3, 1) := by decide +kernel
theorem dL_law_682 : decode code 682 = .ok (.iconst 1, 1) := by decide +kernel
theorem dL_law_683 : decode code 683 = .ok (.iadd, 1) := by decide +kernel
theorem dL_law_684 : decode code 684 = .ok (.iaload, 1) := by decide +kernel
theorem dL_law_685 : decode code 685 = .ok (.invokevirtual 101, 3) := by decide +kernel
theorem dL_law_688 : decode code 688 = .ok (.aload_n 2, 1) := by decide +kernel
theorem dL_law_689 : decode code 689 = .ok (.aload_n 0, 1) := by decide +kernel
theorem dL_law_690 : decode code 690 = .ok (.iload_n 3, 1) := by decide +kernel
theorem dL_law_691 : decode code 691 = .ok (.iconst 1, 1) := by decide +kernel
theorem dL_law_692 : decode code 692 = .ok (.iadd, 1) := by decide +kernel
theorem dL_law_693 : decode code 693 = .ok (.iaload, 1) := by decide +kernel
theorem dL_law_694 : decode code 694 = .ok (.invokevirtual 104, 3) := by decide +kernel
theorem dL_law_697 : decode code 697 = .ok (.if_icmp .eq 5, 3) := by decide +kernel
theorem dL_law_700 : decode code 700 = .ok (.iconst 0, 1) := by decide +kernel
theorem dL_law_701 : decode code 701 = .ok (.ireturn, 1) := by decide +kernel
theorem dL_law_702 : decode code 702 = .ok (.iinc 3 4, 3) := by decide +kernel
theorem dL_law_705 : decode code 705 = .ok (.goto (-687), 3) := by decide +kernel
theorem dL_law_708 : decode code 708 = .ok (.iconst 1, 1) := by decide +kernel
theorem dL_law_709 : decode code 709 = .ok (.ireturn, 1) := by decide +kernel
set_option maxRecDepth 100000 in
set_option maxHeartbeats 4000000 in
theorem law_0 {p : Program} {l : Launch} {e : Env} {s : State} {m : MethodId} {below : List Frame} {meth : Method} {c : Code} {b L : Nat} {xs : Nat → Int32} {D : va_G} {α β : zA} {i : Nat} (X : LX p s m meth c b L xs D α β) (hi : i + 4 ≤ L) (K : LW p l e s m below meth c b D α β i 702) : LW p l e s m below meth c b D α β i 136 := by
  obtain ⟨hL, ⟨hx, hb, hr, hml, hown, hts0, hX, hbl, hlocks, hgv⟩, hKa, hKb, hnw⟩ := X
  have hts : ∀ w ∈ zAll, w.before #[Value.ref b] s = true := fun w hw => hts0 w (List.mem_filter.mp hw).1
  have hA : ∀ q : Nat, s.heap.size ≤ q → (fun q : Nat => s.heap.size ≤ q) q := fun _ h => h
  have hbA : ¬ (fun q : Nat => s.heap.size ≤ q) b := Nat.not_le.mpr hbl
  have i1 : vp_in (nI i + 1) L := by rw [nI_1]; exact vp_in_nI (by omega) (by omega)
  have i2 : vp_in (nI i + 2) L := by rw [show nI i + 2 = nI (i + 2) from nI_add i 2]; exact vp_in_nI (by omega) (by omega)
  have i3 : vp_in (nI i + 3) L := by rw [show nI i + 3 = nI (i + 3) from nI_add i 3]; exact vp_in_nI (by omega) (by omega)
  intro a σC σM H locs ls hC hM hP hD hS hl
  obtain ⟨fC, h0C⟩ := cSt_0 hC
  obtain ⟨fM, h0M⟩ := mSt_0 hM
  refine lv_aload_n hx hb dL_law_136 rfl (lv_at hl 1 rfl) ?_
  refine lv_aload_n hx hb dL_law_137 rfl (lv_at hl 0 rfl) ?_
  refine lv_iload_n hx hb dL_law_138 rfl (lv_at hl 3 rfl) ?_
  refine lv_iconst (v := 1) hx hb dL_law_139 (by decide) ?_
  refine lv_iadd hx hb dL_law_140 ?_
  refine va_sld hx hb hX hbl hbA hS i1 dL_law_141 ?_
  refine z_lcall 1 13 4 [.inl (xs (nI i + 1).toNatClampNeg)] (own := RL) (α := α) (vs := [.int (xs (nI i + 1).toNatClampNeg)]) (rest := []) hx hb hml hown hts hKa hnw hA (zX4_reset l) (by decide +kernel) ykX4_reset (by decide +kernel) (by decide) h0C (eX4_reset (P := fun ro σ2 => ∃ r a2, ro = some (.inl r) ∧ rReset (xs (nI i + 1).toNatClampNeg) a r a2 ∧ cSt a2 σ2) hC (fun r a2 σ2 h1 h2 => ⟨r, a2, rfl, h1, h2⟩)) rfl rfl hP hD hS hl.1 (Nat.le_of_ble_eq_true rfl) ⟨Nat.le_of_ble_eq_true rfl, Nat.le_of_ble_eq_true rfl⟩ dL_law_142 rfl (fun ro σC H locs hp hP hD hS => ?_)
  obtain ⟨r, a2, rfl, hrel, hC2⟩ := hp
  have hP := z_swapP hP
  have hD := z_swapD hD
  refine lv_aload_n hx hb dL_law_145 rfl (lv_at hl 2 rfl) ?_
  refine lv_aload_n hx hb dL_law_146 rfl (lv_at hl 0 rfl) ?_
  refine lv_iload_n hx hb dL_law_147 rfl (lv_at hl 3 rfl) ?_
  refine lv_iconst (v := 1) hx hb dL_law_148 (by decide) ?_
  refine lv_iadd hx hb dL_law_149 ?_
  refine va_sld hx hb hX hbl hbA hS i1 dL_law_150 ?_
  refine z_lcall 1 17 5 [.inl (xs (nI i + 1).toNatClampNeg)] (own := RL) (α := β) (vs := [.int (xs (nI i + 1).toNatClampNeg)]) (rest := [.int r]) hx hb hml hown hts hKb hnw hA (zX5_reset l) (by decide +kernel) ykX5_reset (by decide +kernel) (by decide) h0M (eX5_reset (P := fun ro σ2 => ro = some (.inl r) ∧ mSt a2 σ2) hM hrel (fun σ2 h1 => ⟨rfl, h1⟩)) rfl rfl hP hD hS hl.1 (Nat.le_of_ble_eq_true rfl) ⟨Nat.le_of_ble_eq_true rfl, Nat.le_of_ble_eq_true rfl⟩ dL_law_151 rfl (fun ro σM H locs hp hP hD hS => ?_)
  obtain ⟨rfl, hM2⟩ := hp
  have hP := z_swapP hP
  have hD := z_swapD hD
  exact lv_icmp_eq (tgt := 702) hx hb dL_law_154 (by decide) (fun _ => K a2 σC σM H locs ls hC2 hM2 hP hD hS hl) (fun c9 => absurd rfl c9)
set_option maxRecDepth 100000 in
set_option maxHeartbeats 4000000 in
theorem law_1 {p : Program} {l : Launch} {e : Env} {s : State} {m : MethodId} {below : List Frame} {meth : Method} {c : Code} {b L : Nat} {xs : Nat → Int32} {D : va_G} {α β : zA} {i : Nat} (X : LX p s m meth c b L xs D α β) (hi : i + 4 ≤ L) (K : LW p l e s m below meth c b D α β i 702) : LW p l e s m below meth c b D α β i 159 := by
  obtain ⟨hL, ⟨hx, hb, hr, hml, hown, hts0, hX, hbl, hlocks, hgv⟩, hKa, hKb, hnw⟩ := X
  have hts : ∀ w ∈ zAll, w.before #[Value.ref b] s = true := fun w hw => hts0 w (List.mem_filter.mp hw).1
  have hA : ∀ q : Nat, s.heap.size ≤ q → (fun q : Nat => s.heap.size ≤ q) q := fun _ h => h
  have hbA : ¬ (fun q : Nat => s.heap.size ≤ q) b := Nat.not_le.mpr hbl
  have i1 : vp_in (nI i + 1) L := by rw [nI_1]; exact vp_in_nI (by omega) (by omega)
  have i2 : vp_in (nI i + 2) L := by rw [show nI i + 2 = nI (i + 2) from nI_add i 2]; exact vp_in_nI (by omega) (by omega)
  have i3 : vp_in (nI i + 3) L := by rw [show nI i + 3 = nI (i + 3) from nI_add i 3]; exact vp_in_nI (by omega) (by omega)
  intro a σC σM H locs ls hC hM hP hD hS hl
  obtain ⟨fC, h0C⟩ := cSt_0 hC
  obtain ⟨fM, h0M⟩ := mSt_0 hM
  refine lv_aload_n hx hb dL_law_159 rfl (lv_at hl 1 rfl) ?_
  refine lv_aload_n hx hb dL_law_160 rfl (lv_at hl 0 rfl) ?_
  refine lv_iload_n hx hb dL_law_161 rfl (lv_at hl 3 rfl) ?_
  refine lv_iconst (v := 1) hx hb dL_law_162 (by decide) ?_
  refine lv_iadd hx hb dL_law_163 ?_
  refine va_sld hx hb hX hbl hbA hS i1 dL_law_164 ?_
  refine lv_aload_n hx hb dL_law_165 rfl (lv_at hl 0 rfl) ?_
  refine lv_iload_n hx hb dL_law_166 rfl (lv_at hl 3 rfl) ?_
  refine lv_iconst (v := 2) hx hb dL_law_167 (by decide) ?_
  refine lv_iadd hx hb dL_law_168 ?_
  refine va_sld hx hb hX hbl hbA hS i2 dL_law_169 ?_
  refine lv_aload_n hx hb dL_law_170 rfl (lv_at hl 0 rfl) ?_
  refine lv_iload_n hx hb dL_law_171 rfl (lv_at hl 3 rfl) ?_
  refine lv_iconst (v := 3) hx hb dL_law_172 (by decide) ?_
  refine lv_iadd hx hb dL_law_173 ?_
  refine va_sld hx hb hX hbl hbA hS i3 dL_law_174 ?_
  refine z_lcall 3 18 4 [.inl (xs (nI i + 1).toNatClampNeg), .inl (xs (nI i + 2).toNatClampNeg), .inl (xs (nI i + 3).toNatClampNeg)] (own := RL) (α := α) (vs := [.int (xs (nI i + 1).toNatClampNeg), .int (xs (nI i + 2).toNatClampNeg), .int (xs (nI i + 3).toNatClampNeg)]) (rest := []) hx hb hml hown hts hKa hnw hA (zX4_setCapacity l) (by decide +kernel) ykX4_setCapacity (by decide +kernel) (by decide) h0C (eX4_setCapacity (P := fun ro σ2 => ∃ r a2, ro = some (.inl r) ∧ rSet (xs (nI i + 1).toNatClampNeg) (xs (nI i + 2).toNatClampNeg) (xs (nI i + 3).toNatClampNeg) a r a2 ∧ cSt a2 σ2) hC (fun r a2 σ2 h1 h2 => ⟨r, a2, rfl, h1, h2⟩)) rfl rfl hP hD hS hl.1 (Nat.le_of_ble_eq_true rfl) ⟨Nat.le_of_ble_eq_true rfl, Nat.le_of_ble_eq_true rfl⟩ dL_law_175 rfl (fun ro σC H locs hp hP hD hS => ?_)
  obtain ⟨r, a2, rfl, hrel, hC2⟩ := hp
  have hP := z_swapP hP
  have hD := z_swapD hD
  refine lv_aload_n hx hb dL_law_178 rfl (lv_at hl 2 rfl) ?_
  refine lv_aload_n hx hb dL_law_179 rfl (lv_at hl 0 rfl) ?_
  refine lv_iload_n hx hb dL_law_180 rfl (lv_at hl 3 rfl) ?_
  refine lv_iconst (v := 1) hx hb dL_law_181 (by decide) ?_
  refine lv_iadd hx hb dL_law_182 ?_
  refine va_sld hx hb hX hbl hbA hS i1 dL_law_183 ?_
  refine lv_aload_n hx hb dL_law_184 rfl (lv_at hl 0 rfl) ?_
  refine lv_iload_n hx hb dL_law_185 rfl (lv_at hl 3 rfl) ?_
  refine lv_iconst (v := 2) hx hb dL_law_186 (by decide) ?_
  refine lv_iadd hx hb dL_law_187 ?_
  refine va_sld hx hb hX hbl hbA hS i2 dL_law_188 ?_
  refine lv_aload_n hx hb dL_law_189 rfl (lv_at hl 0 rfl) ?_
  refine lv_iload_n hx hb dL_law_190 rfl (lv_at hl 3 rfl) ?_
  refine lv_iconst (v := 3) hx hb dL_law_191 (by decide) ?_
  refine lv_iadd hx hb dL_law_192 ?_
  refine va_sld hx hb hX hbl hbA hS i3 dL_law_193 ?_
  refine z_lcall 3 22 5 [.inl (xs (nI i + 1).toNatClampNeg), .inl (xs (nI i + 2).toNatClampNeg), .inl (xs (nI i + 3).toNatClampNeg)] (own := RL) (α := β) (vs := [.int (xs (nI i + 1).toNatClampNeg), .int (xs (nI i + 2).toNatClampNeg), .int (xs (nI i + 3).toNatClampNeg)]) (rest := [.int r]) hx hb hml hown hts hKb hnw hA (zX5_setCapacity l) (by decide +kernel) ykX5_setCapacity (by decide +kernel) (by decide) h0M (eX5_setCapacity (P := fun ro σ2 => ro = some (.inl r) ∧ mSt a2 σ2) hM hrel (fun σ2 h1 => ⟨rfl, h1⟩)) rfl rfl hP hD hS hl.1 (Nat.le_of_ble_eq_true rfl) ⟨Nat.le_of_ble_eq_true rfl, Nat.le_of_ble_eq_true rfl⟩ dL_law_194 rfl (fun ro σM H locs hp hP hD hS => ?_)
  obtain ⟨rfl, hM2⟩ := hp
  have hP := z_swapP hP
  have hD := z_swapD hD
  exact lv_icmp_eq (tgt := 702) hx hb dL_law_197 (by decide) (fun _ => K a2 σC σM H locs ls hC2 hM2 hP hD hS hl) (fun c9 => absurd rfl c9)
set_option maxRecDepth 100000 in
set_option maxHeartbeats 4000000 in
theorem law_2 {p : Program} {l : Launch} {e : Env} {s : State} {m : MethodId} {below : List Frame} {meth : Method} {c : Code} {b L : Nat} {xs : Nat → Int32} {D : va_G} {α β : zA} {i : Nat} (X : LX p s m meth c b L xs D α β) (hi : i + 4 ≤ L) (K : LW p l e s m below meth c b D α β i 702) : LW p l e s m below meth c b D α β i 202 := by
  obtain ⟨hL, ⟨hx, hb, hr, hml, hown, hts0, hX, hbl, hlocks, hgv⟩, hKa, hKb, hnw⟩ := X
  have hts : ∀ w ∈ zAll, w.before #[Value.ref b] s = true := fun w hw => hts0 w (List.mem_filter.mp hw).1
  have hA : ∀ q : Nat, s.heap.size ≤ q → (fun q : Nat => s.heap.size ≤ q) q := fun _ h => h
  have hbA : ¬ (fun q : Nat => s.heap.size ≤ q) b := Nat.not_le.mpr hbl
  have i1 : vp_in (nI i + 1) L := by rw [nI_1]; exact vp_in_nI (by omega) (by omega)
  have i2 : vp_in (nI i + 2) L := by rw [show nI i + 2 = nI (i + 2) from nI_add i 2]; exact vp_in_nI (by omega) (by omega)
  have i3 : vp_in (nI i + 3) L := by rw [show nI i + 3 = nI (i + 3) from nI_add i 3]; exact vp_in_nI (by omega) (by omega)
  intro a σC σM H locs ls hC hM hP hD hS hl
  obtain ⟨fC, h0C⟩ := cSt_0 hC
  obtain ⟨fM, h0M⟩ := mSt_0 hM
  refine lv_aload_n hx hb dL_law_202 rfl (lv_at hl 1 rfl) ?_
  refine z_lcall 0 23 4 [] (own := RL) (α := α) (vs := []) (rest := []) hx hb hml hown hts hKa hnw hA (zX4_undo l) (by decide +kernel) ykX4_undo (by decide +kernel) (by decide) h0C (eX4_undo (P := fun ro σ2 => ∃ r a2, ro = some (.inl r) ∧ rUndo  a r a2 ∧ cSt a2 σ2) hC (fun r a2 σ2 h1 h2 => ⟨r, a2, rfl, h1, h2⟩)) rfl rfl hP hD hS hl.1 (Nat.le_of_ble_eq_true rfl) ⟨Nat.le_of_ble_eq_true rfl, Nat.le_of_ble_eq_true rfl⟩ dL_law_203 rfl (fun ro σC H locs hp hP hD hS => ?_)
  obtain ⟨r, a2, rfl, hrel, hC2⟩ := hp
  have hP := z_swapP hP
  have hD := z_swapD hD
  refine lv_aload_n hx hb dL_law_206 rfl (lv_at hl 2 rfl) ?_
  refine z_lcall 0 27 5 [] (own := RL) (α := β) (vs := []) (rest := [.int r]) hx hb hml hown hts hKb hnw hA (zX5_undo l) (by decide +kernel) ykX5_undo (by decide +kernel) (by decide) h0M (eX5_undo (P := fun ro σ2 => ro = some (.inl r) ∧ mSt a2 σ2) hM hrel (fun σ2 h1 => ⟨rfl, h1⟩)) rfl rfl hP hD hS hl.1 (Nat.le_of_ble_eq_true rfl) ⟨Nat.le_of_ble_eq_true rfl, Nat.le_of_ble_eq_true rfl⟩ dL_law_207 rfl (fun ro σM H locs hp hP hD hS => ?_)
  obtain ⟨rfl, hM2⟩ := hp
  have hP := z_swapP hP
  have hD := z_swapD hD
  exact lv_icmp_eq (tgt := 702) hx hb dL_law_210 (by decide) (fun _ => K a2 σC σM H locs ls hC2 hM2 hP hD hS hl) (fun c9 => absurd rfl c9)
set_option maxRecDepth 100000 in
set_option maxHeartbeats 4000000 in
theorem law_3 {p : Program} {l : Launch} {e : Env} {s : State} {m : MethodId} {below : List Frame} {meth : Method} {c : Code} {b L : Nat} {xs : Nat → Int32} {D : va_G} {α β : zA} {i : Nat} (X : LX p s m meth c b L xs D α β) (hi : i + 4 ≤ L) (K : LW p l e s m below meth c b D α β i 702) : LW p l e s m below meth c b D α β i 215 := by
  obtain ⟨hL, ⟨hx, hb, hr, hml, hown, hts0, hX, hbl, hlocks, hgv⟩, hKa, hKb, hnw⟩ := X
  have hts : ∀ w ∈ zAll, w.before #[Value.ref b] s = true := fun w hw => hts0 w (List.mem_filter.mp hw).1
  have hA : ∀ q : Nat, s.heap.size ≤ q → (fun q : Nat => s.heap.size ≤ q) q := fun _ h => h
  have hbA : ¬ (fun q : Nat => s.heap.size ≤ q) b := Nat.not_le.mpr hbl
  have i1 : vp_in (nI i + 1) L := by rw [nI_1]; exact vp_in_nI (by omega) (by omega)
  have i2 : vp_in (nI i + 2) L := by rw [show nI i + 2 = nI (i + 2) from nI_add i 2]; exact vp_in_nI (by omega) (by omega)
  have i3 : vp_in (nI i + 3) L := by rw [show nI i + 3 = nI (i + 3) from nI_add i 3]; exact vp_in_nI (by omega) (by omega)
  intro a σC σM H locs ls hC hM hP hD hS hl
  obtain ⟨fC, h0C⟩ := cSt_0 hC
  obtain ⟨fM, h0M⟩ := mSt_0 hM
  refine lv_aload_n hx hb dL_law_215 rfl (lv_at hl 1 rfl) ?_
  refine lv_aload_n hx hb dL_law_216 rfl (lv_at hl 0 rfl) ?_
  refine lv_iload_n hx hb dL_law_217 rfl (lv_at hl 3 rfl) ?_
  refine lv_iconst (v := 1) hx hb dL_law_218 (by decide) ?_
  refine lv_iadd hx hb dL_law_219 ?_
  refine va_sld hx hb hX hbl hbA hS i1 dL_law_220 ?_
  refine lv_aload_n hx hb dL_law_221 rfl (lv_at hl 0 rfl) ?_
  refine lv_iload_n hx hb dL_law_222 rfl (lv_at hl 3 rfl) ?_
  refine lv_iconst (v := 2) hx hb dL_law_223 (by decide) ?_
  refine lv_iadd hx hb dL_law_224 ?_
  refine va_sld hx hb hX hbl hbA hS i2 dL_law_225 ?_
  refine z_lcall 2 28 4 [.inl (xs (nI i + 1).toNatClampNeg), .inl (xs (nI i + 2).toNatClampNeg)] (own := RL) (α := α) (vs := [.int (xs (nI i + 1).toNatClampNeg), .int (xs (nI i + 2).toNatClampNeg)]) (rest := []) hx hb hml hown hts hKa hnw hA (zX4_capacity l) (by decide +kernel) ykX4_capacity (by decide +kernel) (by decide) h0C (eX4_capacity (P := fun ro σ2 => ∃ r a2, ro = some (.inl r) ∧ rCap (xs (nI i + 1).toNatClampNeg) (xs (nI i + 2).toNatClampNeg) a r a2 ∧ cSt a2 σ2) hC (fun r a2 σ2 h1 h2 => ⟨r, a2, rfl, h1, h2⟩)) rfl rfl hP hD hS hl.1 (Nat.le_of_ble_eq_true rfl) ⟨Nat.le_of_ble_eq_true rfl, Nat.le_of_ble_eq_true rfl⟩ dL_law_226 rfl (fun ro σC H locs hp hP hD hS => ?_)
  obtain ⟨r, a2, rfl, hrel, hC2⟩ := hp
  have hP := z_swapP hP
  have hD := z_swapD hD
  refine lv_aload_n hx hb dL_law_229 rfl (lv_at hl 2 rfl) ?_
  refine lv_aload_n hx hb dL_law_230 rfl (lv_at hl 0 rfl) ?_
  refine lv_iload_n hx hb dL_law_231 rfl (lv_at hl 3 rfl) ?_
  refine lv_iconst (v := 1) hx hb dL_law_232 (by decide) ?_
  refine lv_iadd hx hb dL_law_233 ?_
  refine va_sld hx hb hX hbl hbA hS i1 dL_law_234 ?_
  refine lv_aload_n hx hb dL_law_235 rfl (lv_at hl 0 rfl) ?_
  refine lv_iload_n hx hb dL_law_236 rfl (lv_at hl 3 rfl) ?_
  refine lv_iconst (v := 2) hx hb dL_law_237 (by decide) ?_
  refine lv_iadd hx hb dL_law_238 ?_
  refine va_sld hx hb hX hbl hbA hS i2 dL_law_239 ?_
  refine z_lcall 2 32 5 [.inl (xs (nI i + 1).toNatClampNeg), .inl (xs (nI i + 2).toNatClampNeg)] (own := RL) (α := β) (vs := [.int (xs (nI i + 1).toNatClampNeg), .int (xs (nI i + 2).toNatClampNeg)]) (rest := [.int r]) hx hb hml hown hts hKb hnw hA (zX5_capacity l) (by decide +kernel) ykX5_capacity (by decide +kernel) (by decide) h0M (eX5_capacity (P := fun ro σ2 => ro = some (.inl r) ∧ mSt a2 σ2) hM hrel (fun σ2 h1 => ⟨rfl, h1⟩)) rfl rfl hP hD hS hl.1 (Nat.le_of_ble_eq_true rfl) ⟨Nat.le_of_ble_eq_true rfl, Nat.le_of_ble_eq_true rfl⟩ dL_law_240 rfl (fun ro σM H locs hp hP hD hS => ?_)
  obtain ⟨rfl, hM2⟩ := hp
  have hP := z_swapP hP
  have hD := z_swapD hD
  exact lv_icmp_eq (tgt := 702) hx hb dL_law_243 (by decide) (fun _ => K a2 σC σM H locs ls hC2 hM2 hP hD hS hl) (fun c9 => absurd rfl c9)
set_option maxRecDepth 100000 in
set_option maxHeartbeats 4000000 in
theorem law_4 {p : Program} {l : Launch} {e : Env} {s : State} {m : MethodId} {below : List Frame} {meth : Method} {c : Code} {b L : Nat} {xs : Nat → Int32} {D : va_G} {α β : zA} {i : Nat} (X : LX p s m meth c b L xs D α β) (hi : i + 4 ≤ L) (K : LW p l e s m below meth c b D α β i 702) : LW p l e s m below meth c b D α β i 248 := by
  obtain ⟨hL, ⟨hx, hb, hr, hml, hown, hts0, hX, hbl, hlocks, hgv⟩, hKa, hKb, hnw⟩ := X
  have hts : ∀ w ∈ zAll, w.before #[Value.ref b] s = true := fun w hw => hts0 w (List.mem_filter.mp hw).1
  have hA : ∀ q : Nat, s.heap.size ≤ q → (fun q : Nat => s.heap.size ≤ q) q := fun _ h => h
  have hbA : ¬ (fun q : Nat => s.heap.size ≤ q) b := Nat.not_le.mpr hbl
  have i1 : vp_in (nI i + 1) L := by rw [nI_1]; exact vp_in_nI (by omega) (by omega)
  have i2 : vp_in (nI i + 2) L := by rw [show nI i + 2 = nI (i + 2) from nI_add i 2]; exact vp_in_nI (by omega) (by omega)
  have i3 : vp_in (nI i + 3) L := by rw [show nI i + 3 = nI (i + 3) from nI_add i 3]; exact vp_in_nI (by omega) (by omega)
  intro a σC σM H locs ls hC hM hP hD hS hl
  obtain ⟨fC, h0C⟩ := cSt_0 hC
  obtain ⟨fM, h0M⟩ := mSt_0 hM
  refine lv_aload_n hx hb dL_law_248 rfl (lv_at hl 1 rfl) ?_
  refine lv_aload_n hx hb dL_law_249 rfl (lv_at hl 0 rfl) ?_
  refine lv_iload_n hx hb dL_law_250 rfl (lv_at hl 3 rfl) ?_
  refine lv_iconst (v := 1) hx hb dL_law_251 (by decide) ?_
  refine lv_iadd hx hb dL_law_252 ?_
  refine va_sld hx hb hX hbl hbA hS i1 dL_law_253 ?_
  refine z_lcall 1 33 4 [.inl (xs (nI i + 1).toNatClampNeg)] (own := RL) (α := α) (vs := [.int (xs (nI i + 1).toNatClampNeg)]) (rest := []) hx hb hml hown hts hKa hnw hA (zX4_count l) (by decide +kernel) ykX4_count (by decide +kernel) (by decide) h0C (eX4_count (P := fun ro σ2 => ∃ r a2, ro = some (.inl r) ∧ rCount (xs (nI i + 1).toNatClampNeg) a r a2 ∧ cSt a2 σ2) hC (fun r a2 σ2 h1 h2 => ⟨r, a2, rfl, h1, h2⟩)) rfl rfl hP hD hS hl.1 (Nat.le_of_ble_eq_true rfl) ⟨Nat.le_of_ble_eq_true rfl, Nat.le_of_ble_eq_true rfl⟩ dL_law_254 rfl (fun ro σC H locs hp hP hD hS => ?_)
  obtain ⟨r, a2, rfl, hrel, hC2⟩ := hp
  have hP := z_swapP hP
  have hD := z_swapD hD
  refine lv_aload_n hx hb dL_law_257 rfl (lv_at hl 2 rfl) ?_
  refine lv_aload_n hx hb dL_law_258 rfl (lv_at hl 0 rfl) ?_
  refine lv_iload_n hx hb dL_law_259 rfl (lv_at hl 3 rfl) ?_
  refine lv_iconst (v := 1) hx hb dL_law_260 (by decide) ?_
  refine lv_iadd hx hb dL_law_261 ?_
  refine va_sld hx hb hX hbl hbA hS i1 dL_law_262 ?_
  refine z_lcall 1 36 5 [.inl (xs (nI i + 1).toNatClampNeg)] (own := RL) (α := β) (vs := [.int (xs (nI i + 1).toNatClampNeg)]) (rest := [.int r]) hx hb hml hown hts hKb hnw hA (zX5_count l) (by decide +kernel) ykX5_count (by decide +kernel) (by decide) h0M (eX5_count (P := fun ro σ2 => ro = some (.inl r) ∧ mSt a2 σ2) hM hrel (fun σ2 h1 => ⟨rfl, h1⟩)) rfl rfl hP hD hS hl.1 (Nat.le_of_ble_eq_true rfl) ⟨Nat.le_of_ble_eq_true rfl, Nat.le_of_ble_eq_true rfl⟩ dL_law_263 rfl (fun ro σM H locs hp hP hD hS => ?_)
  obtain ⟨rfl, hM2⟩ := hp
  have hP := z_swapP hP
  have hD := z_swapD hD
  exact lv_icmp_eq (tgt := 702) hx hb dL_law_266 (by decide) (fun _ => K a2 σC σM H locs ls hC2 hM2 hP hD hS hl) (fun c9 => absurd rfl c9)
set_option maxRecDepth 100000 in
set_option maxHeartbeats 4000000 in
theorem law_5 {p : Program} {l : Launch} {e : Env} {s : State} {m : MethodId} {below : List Frame} {meth : Method} {c : Code} {b L : Nat} {xs : Nat → Int32} {D : va_G} {α β : zA} {i : Nat} (X : LX p s m meth c b L xs D α β) (hi : i + 4 ≤ L) (K : LW p l e s m below meth c b D α β i 702) : LW p l e s m below meth c b D α β i 271 := by
  obtain ⟨hL, ⟨hx, hb, hr, hml, hown, hts0, hX, hbl, hlocks, hgv⟩, hKa, hKb, hnw⟩ := X
  have hts : ∀ w ∈ zAll, w.before #[Value.ref b] s = true := fun w hw => hts0 w (List.mem_filter.mp hw).1
  have hA : ∀ q : Nat, s.heap.size ≤ q → (fun q : Nat => s.heap.size ≤ q) q := fun _ h => h
  have hbA : ¬ (fun q : Nat => s.heap.size ≤ q) b := Nat.not_le.mpr hbl
  have i1 : vp_in (nI i + 1) L := by rw [nI_1]; exact vp_in_nI (by omega) (by omega)
  have i2 : vp_in (nI i + 2) L := by rw [show nI i + 2 = nI (i + 2) from nI_add i 2]; exact vp_in_nI (by omega) (by omega)
  have i3 : vp_in (nI i + 3) L := by rw [show nI i + 3 = nI (i + 3) from nI_add i 3]; exact vp_in_nI (by omega) (by omega)
  intro a σC σM H locs ls hC hM hP hD hS hl
  obtain ⟨fC, h0C⟩ := cSt_0 hC
  obtain ⟨fM, h0M⟩ := mSt_0 hM
  refine lv_aload_n hx hb dL_law_271 rfl (lv_at hl 1 rfl) ?_
  refine lv_aload_n hx hb dL_law_272 rfl (lv_at hl 0 rfl) ?_
  refine lv_iload_n hx hb dL_law_273 rfl (lv_at hl 3 rfl) ?_
  refine lv_iconst (v := 1) hx hb dL_law_274 (by decide) ?_
  refine lv_iadd hx hb dL_law_275 ?_
  refine va_sld hx hb hX hbl hbA hS i1 dL_law_276 ?_
  refine z_lcall 1 37 4 [.inl (xs (nI i + 1).toNatClampNeg)] (own := RL) (α := α) (vs := [.int (xs (nI i + 1).toNatClampNeg)]) (rest := []) hx hb hml hown hts hKa hnw hA (zX4_cutWeight l) (by decide +kernel) ykX4_cutWeight (by decide +kernel) (by decide) h0C (eX4_cutWeight (P := fun ro σ2 => ∃ r a2, ro = some (.inl r) ∧ rCutW (xs (nI i + 1).toNatClampNeg) a r a2 ∧ cSt a2 σ2) hC (fun r a2 σ2 h1 h2 => ⟨r, a2, rfl, h1, h2⟩)) rfl rfl hP hD hS hl.1 (Nat.le_of_ble_eq_true rfl) ⟨Nat.le_of_ble_eq_true rfl, Nat.le_of_ble_eq_true rfl⟩ dL_law_277 rfl (fun ro σC H locs hp hP hD hS => ?_)
  obtain ⟨r, a2, rfl, hrel, hC2⟩ := hp
  have hP := z_swapP hP
  have hD := z_swapD hD
  refine lv_aload_n hx hb dL_law_280 rfl (lv_at hl 2 rfl) ?_
  refine lv_aload_n hx hb dL_law_281 rfl (lv_at hl 0 rfl) ?_
  refine lv_iload_n hx hb dL_law_282 rfl (lv_at hl 3 rfl) ?_
  refine lv_iconst (v := 1) hx hb dL_law_283 (by decide) ?_
  refine lv_iadd hx hb dL_law_284 ?_
  refine va_sld hx hb hX hbl hbA hS i1 dL_law_285 ?_
  refine z_lcall 1 40 5 [.inl (xs (nI i + 1).toNatClampNeg)] (own := RL) (α := β) (vs := [.int (xs (nI i + 1).toNatClampNeg)]) (rest := [.int r]) hx hb hml hown hts hKb hnw hA (zX5_cutWeight l) (by decide +kernel) ykX5_cutWeight (by decide +kernel) (by decide) h0M (eX5_cutWeight (P := fun ro σ2 => ro = some (.inl r) ∧ mSt a2 σ2) hM hrel (fun σ2 h1 => ⟨rfl, h1⟩)) rfl rfl hP hD hS hl.1 (Nat.le_of_ble_eq_true rfl) ⟨Nat.le_of_ble_eq_true rfl, Nat.le_of_ble_eq_true rfl⟩ dL_law_286 rfl (fun ro σM H locs hp hP hD hS => ?_)
  obtain ⟨rfl, hM2⟩ := hp
  have hP := z_swapP hP
  have hD := z_swapD hD
  exact lv_icmp_eq (tgt := 702) hx hb dL_law_289 (by decide) (fun _ => K a2 σC σM H locs ls hC2 hM2 hP hD hS hl) (fun c9 => absurd rfl c9)
set_option maxRecDepth 100000 in
set_option maxHeartbeats 4000000 in
theorem law_6 {p : Program} {l : Launch} {e : Env} {s : State} {m : MethodId} {below : List Frame} {meth : Method} {c : Code} {b L : Nat} {xs : Nat → Int32} {D : va_G} {α β : zA} {i : Nat} (X : LX p s m meth c b L xs D α β) (hi : i + 4 ≤ L) (K : LW p l e s m below meth c b D α β i 702) : LW p l e s m below meth c b D α β i 294 := by
  obtain ⟨hL, ⟨hx, hb, hr, hml, hown, hts0, hX, hbl, hlocks, hgv⟩, hKa, hKb, hnw⟩ := X
  have hts : ∀ w ∈ zAll, w.before #[Value.ref b] s = true := fun w hw => hts0 w (List.mem_filter.mp hw).1
  have hA : ∀ q : Nat, s.heap.size ≤ q → (fun q : Nat => s.heap.size ≤ q) q := fun _ h => h
  have hbA : ¬ (fun q : Nat => s.heap.size ≤ q) b := Nat.not_le.mpr hbl
  have i1 : vp_in (nI i + 1) L := by rw [nI_1]; exact vp_in_nI (by omega) (by omega)
  have i2 : vp_in (nI i + 2) L := by rw [show nI i + 2 = nI (i + 2) from nI_add i 2]; exact vp_in_nI (by omega) (by omega)
  have i3 : vp_in (nI i + 3) L := by rw [show nI i + 3 = nI (i + 3) from nI_add i 3]; exact vp_in_nI (by omega) (by omega)
  intro a σC σM H locs ls hC hM hP hD hS hl
  obtain ⟨fC, h0C⟩ := cSt_0 hC
  obtain ⟨fM, h0M⟩ := mSt_0 hM
  refine lv_aload_n hx hb dL_law_294 rfl (lv_at hl 1 rfl) ?_
  refine z_lcall 0 41 4 [] (own := RL) (α := α) (vs := []) (rest := []) hx hb hml hown hts hKa hnw hA (zX4_build l) (by decide +kernel) ykX4_build (by decide +kernel) (by decide) h0C (eX4_build (P := fun ro σ2 => ∃ r a2, ro = some (.inl r) ∧ rBuild  a r a2 ∧ cSt a2 σ2) hC (fun r a2 σ2 h1 h2 => ⟨r, a2, rfl, h1, h2⟩)) rfl rfl hP hD hS hl.1 (Nat.le_of_ble_eq_true rfl) ⟨Nat.le_of_ble_eq_true rfl, Nat.le_of_ble_eq_true rfl⟩ dL_law_295 rfl (fun ro σC H locs hp hP hD hS => ?_)
  obtain ⟨r, a2, rfl, hrel, hC2⟩ := hp
  have hP := z_swapP hP
  have hD := z_swapD hD
  refine lv_aload_n hx hb dL_law_298 rfl (lv_at hl 2 rfl) ?_
  refine z_lcall 0 44 5 [] (own := RL) (α := β) (vs := []) (rest := [.int r]) hx hb hml hown hts hKb hnw hA (zX5_build l) (by decide +kernel) ykX5_build (by decide +kernel) (by decide) h0M (eX5_build (P := fun ro σ2 => ro = some (.inl r) ∧ mSt a2 σ2) hM hrel (fun σ2 h1 => ⟨rfl, h1⟩)) rfl rfl hP hD hS hl.1 (Nat.le_of_ble_eq_true rfl) ⟨Nat.le_of_ble_eq_true rfl, Nat.le_of_ble_eq_true rfl⟩ dL_law_299 rfl (fun ro σM H locs hp hP hD hS => ?_)
  obtain ⟨rfl, hM2⟩ := hp
  have hP := z_swapP hP
  have hD := z_swapD hD
  exact lv_icmp_eq (tgt := 702) hx hb dL_law_302 (by decide) (fun _ => K a2 σC σM H locs ls hC2 hM2 hP hD hS hl) (fun c9 => absurd rfl c9)
set_option maxRecDepth 100000 in
set_option maxHeartbeats 4000000 in
theorem law_7 {p : Program} {l : Launch} {e : Env} {s : State} {m : MethodId} {below : List Frame} {meth : Method} {c : Code} {b L : Nat} {xs : Nat → Int32} {D : va_G} {α β : zA} {i : Nat} (X : LX p s m meth c b L xs D α β) (hi : i + 4 ≤ L) (K : LW p l e s m below meth c b D α β i 702) : LW p l e s m below meth c b D α β i 307 := by
  obtain ⟨hL, ⟨hx, hb, hr, hml, hown, hts0, hX, hbl, hlocks, hgv⟩, hKa, hKb, hnw⟩ := X
  have hts : ∀ w ∈ zAll, w.before #[Value.ref b] s = true := fun w hw => hts0 w (List.mem_filter.mp hw).1
  have hA : ∀ q : Nat, s.heap.size ≤ q → (fun q : Nat => s.heap.size ≤ q) q := fun _ h => h
  have hbA : ¬ (fun q : Nat => s.heap.size ≤ q) b := Nat.not_le.mpr hbl
  have i1 : vp_in (nI i + 1) L := by rw [nI_1]; exact vp_in_nI (by omega) (by omega)
  have i2 : vp_in (nI i + 2) L := by rw [show nI i + 2 = nI (i + 2) from nI_add i 2]; exact vp_in_nI (by omega) (by omega)
  have i3 : vp_in (nI i + 3) L := by rw [show nI i + 3 = nI (i + 3) from nI_add i 3]; exact vp_in_nI (by omega) (by omega)
  intro a σC σM H locs ls hC hM hP hD hS hl
  obtain ⟨fC, h0C⟩ := cSt_0 hC
  obtain ⟨fM, h0M⟩ := mSt_0 hM
  refine lv_aload_n hx hb dL_law_307 rfl (lv_at hl 1 rfl) ?_
  refine z_lcall 0 45 4 [] (own := RL) (α := α) (vs := []) (rest := []) hx hb hml hown hts hKa hnw hA (zX4_isFresh l) (by decide +kernel) ykX4_isFresh (by decide +kernel) (by decide) h0C (eX4_isFresh (P := fun ro σ2 => ∃ r a2, ro = some (.inl r) ∧ rFresh  a r a2 ∧ cSt a2 σ2) hC (fun r a2 σ2 h1 h2 => ⟨r, a2, rfl, h1, h2⟩)) rfl rfl hP hD hS hl.1 (Nat.le_of_ble_eq_true rfl) ⟨Nat.le_of_ble_eq_true rfl, Nat.le_of_ble_eq_true rfl⟩ dL_law_308 rfl (fun ro σC H locs hp hP hD hS => ?_)
  obtain ⟨r, a2, rfl, hrel, hC2⟩ := hp
  have hP := z_swapP hP
  have hD := z_swapD hD
  refine lv_aload_n hx hb dL_law_311 rfl (lv_at hl 2 rfl) ?_
  refine z_lcall 0 48 5 [] (own := RL) (α := β) (vs := []) (rest := [.int r]) hx hb hml hown hts hKb hnw hA (zX5_isFresh l) (by decide +kernel) ykX5_isFresh (by decide +kernel) (by decide) h0M (eX5_isFresh (P := fun ro σ2 => ro = some (.inl r) ∧ mSt a2 σ2) hM hrel (fun σ2 h1 => ⟨rfl, h1⟩)) rfl rfl hP hD hS hl.1 (Nat.le_of_ble_eq_true rfl) ⟨Nat.le_of_ble_eq_true rfl, Nat.le_of_ble_eq_true rfl⟩ dL_law_312 rfl (fun ro σM H locs hp hP hD hS => ?_)
  obtain ⟨rfl, hM2⟩ := hp
  have hP := z_swapP hP
  have hD := z_swapD hD
  exact lv_icmp_eq (tgt := 702) hx hb dL_law_315 (by decide) (fun _ => K a2 σC σM H locs ls hC2 hM2 hP hD hS hl) (fun c9 => absurd rfl c9)
set_option maxRecDepth 100000 in
set_option maxHeartbeats 4000000 in
theorem law_8 {p : Program} {l : Launch} {e : Env} {s : State} {m : MethodId} {below : List Frame} {meth : Method} {c : Code} {b L : Nat} {xs : Nat → Int32} {D : va_G} {α β : zA} {i : Nat} (X : LX p s m meth c b L xs D α β) (hi : i + 4 ≤ L) (K : LW p l e s m below meth c b D α β i 702) : LW p l e s m below meth c b D α β i 320 := by
  obtain ⟨hL, ⟨hx, hb, hr, hml, hown, hts0, hX, hbl, hlocks, hgv⟩, hKa, hKb, hnw⟩ := X
  have hts : ∀ w ∈ zAll, w.before #[Value.ref b] s = true := fun w hw => hts0 w (List.mem_filter.mp hw).1
  have hA : ∀ q : Nat, s.heap.size ≤ q → (fun q : Nat => s.heap.size ≤ q) q := fun _ h => h
  have hbA : ¬ (fun q : Nat => s.heap.size ≤ q) b := Nat.not_le.mpr hbl
  have i1 : vp_in (nI i + 1) L := by rw [nI_1]; exact vp_in_nI (by omega) (by omega)
  have i2 : vp_in (nI i + 2) L := by rw [show nI i + 2 = nI (i + 2) from nI_add i 2]; exact vp_in_nI (by omega) (by omega)
  have i3 : vp_in (nI i + 3) L := by rw [show nI i + 3 = nI (i + 3) from nI_add i 3]; exact vp_in_nI (by omega) (by omega)
  intro a σC σM H locs ls hC hM hP hD hS hl
  obtain ⟨fC, h0C⟩ := cSt_0 hC
  obtain ⟨fM, h0M⟩ := mSt_0 hM
  refine lv_aload_n hx hb dL_law_320 rfl (lv_at hl 1 rfl) ?_
  refine lv_aload_n hx hb dL_law_321 rfl (lv_at hl 0 rfl) ?_
  refine lv_iload_n hx hb dL_law_322 rfl (lv_at hl 3 rfl) ?_
  refine lv_iconst (v := 1) hx hb dL_law_323 (by decide) ?_
  refine lv_iadd hx hb dL_law_324 ?_
  refine va_sld hx hb hX hbl hbA hS i1 dL_law_325 ?_
  refine z_lcall 1 49 4 [.inl (xs (nI i + 1).toNatClampNeg)] (own := RL) (α := α) (vs := [.int (xs (nI i + 1).toNatClampNeg)]) (rest := []) hx hb hml hown hts hKa hnw hA (zX4_parent l) (by decide +kernel) ykX4_parent (by decide +kernel) (by decide) h0C (eX4_parent (P := fun ro σ2 => ∃ r a2, ro = some (.inl r) ∧ rNode vPa (xs (nI i + 1).toNatClampNeg) a r a2 ∧ cSt a2 σ2) hC (fun r a2 σ2 h1 h2 => ⟨r, a2, rfl, h1, h2⟩)) rfl rfl hP hD hS hl.1 (Nat.le_of_ble_eq_true rfl) ⟨Nat.le_of_ble_eq_true rfl, Nat.le_of_ble_eq_true rfl⟩ dL_law_326 rfl (fun ro σC H locs hp hP hD hS => ?_)
  obtain ⟨r, a2, rfl, hrel, hC2⟩ := hp
  have hP := z_swapP hP
  have hD := z_swapD hD
  refine lv_aload_n hx hb dL_law_329 rfl (lv_at hl 2 rfl) ?_
  refine lv_aload_n hx hb dL_law_330 rfl (lv_at hl 0 rfl) ?_
  refine lv_iload_n hx hb dL_law_331 rfl (lv_at hl 3 rfl) ?_
  refine lv_iconst (v := 1) hx hb dL_law_332 (by decide) ?_
  refine lv_iadd hx hb dL_law_333 ?_
  refine va_sld hx hb hX hbl hbA hS i1 dL_law_334 ?_
  refine z_lcall 1 52 5 [.inl (xs (nI i + 1).toNatClampNeg)] (own := RL) (α := β) (vs := [.int (xs (nI i + 1).toNatClampNeg)]) (rest := [.int r]) hx hb hml hown hts hKb hnw hA (zX5_parent l) (by decide +kernel) ykX5_parent (by decide +kernel) (by decide) h0M (eX5_parent (P := fun ro σ2 => ro = some (.inl r) ∧ mSt a2 σ2) hM hrel (fun σ2 h1 => ⟨rfl, h1⟩)) rfl rfl hP hD hS hl.1 (Nat.le_of_ble_eq_true rfl) ⟨Nat.le_of_ble_eq_true rfl, Nat.le_of_ble_eq_true rfl⟩ dL_law_335 rfl (fun ro σM H locs hp hP hD hS => ?_)
  obtain ⟨rfl, hM2⟩ := hp
  have hP := z_swapP hP
  have hD := z_swapD hD
  exact lv_icmp_eq (tgt := 702) hx hb dL_law_338 (by decide) (fun _ => K a2 σC σM H locs ls hC2 hM2 hP hD hS hl) (fun c9 => absurd rfl c9)
set_option maxRecDepth 100000 in
set_option maxHeartbeats 4000000 in
theorem law_9 {p : Program} {l : Launch} {e : Env} {s : State} {m : MethodId} {below : List Frame} {meth : Method} {c : Code} {b L : Nat} {xs : Nat → Int32} {D : va_G} {α β : zA} {i : Nat} (X : LX p s m meth c b L xs D α β) (hi : i + 4 ≤ L) (K : LW p l e s m below meth c b D α β i 702) : LW p l e s m below meth c b D α β i 343 := by
  obtain ⟨hL, ⟨hx, hb, hr, hml, hown, hts0, hX, hbl, hlocks, hgv⟩, hKa, hKb, hnw⟩ := X
  have hts : ∀ w ∈ zAll, w.before #[Value.ref b] s = true := fun w hw => hts0 w (List.mem_filter.mp hw).1
  have hA : ∀ q : Nat, s.heap.size ≤ q → (fun q : Nat => s.heap.size ≤ q) q := fun _ h => h
  have hbA : ¬ (fun q : Nat => s.heap.size ≤ q) b := Nat.not_le.mpr hbl
  have i1 : vp_in (nI i + 1) L := by rw [nI_1]; exact vp_in_nI (by omega) (by omega)
  have i2 : vp_in (nI i + 2) L := by rw [show nI i + 2 = nI (i + 2) from nI_add i 2]; exact vp_in_nI (by omega) (by omega)
  have i3 : vp_in (nI i + 3) L := by rw [show nI i + 3 = nI (i + 3) from nI_add i 3]; exact vp_in_nI (by omega) (by omega)
  intro a σC σM H locs ls hC hM hP hD hS hl
  obtain ⟨fC, h0C⟩ := cSt_0 hC
  obtain ⟨fM, h0M⟩ := mSt_0 hM
  refine lv_aload_n hx hb dL_law_343 rfl (lv_at hl 1 rfl) ?_
  refine lv_aload_n hx hb dL_law_344 rfl (lv_at hl 0 rfl) ?_
  refine lv_iload_n hx hb dL_law_345 rfl (lv_at hl 3 rfl) ?_
  refine lv_iconst (v := 1) hx hb dL_law_346 (by decide) ?_
  refine lv_iadd hx hb dL_law_347 ?_
  refine va_sld hx hb hX hbl hbA hS i1 dL_law_348 ?_
  refine z_lcall 1 53 4 [.inl (xs (nI i + 1).toNatClampNeg)] (own := RL) (α := α) (vs := [.int (xs (nI i + 1).toNatClampNeg)]) (rest := []) hx hb hml hown hts hKa hnw hA (zX4_label l) (by decide +kernel) ykX4_label (by decide +kernel) (by decide) h0C (eX4_label (P := fun ro σ2 => ∃ r a2, ro = some (.inl r) ∧ rNode vLa (xs (nI i + 1).toNatClampNeg) a r a2 ∧ cSt a2 σ2) hC (fun r a2 σ2 h1 h2 => ⟨r, a2, rfl, h1, h2⟩)) rfl rfl hP hD hS hl.1 (Nat.le_of_ble_eq_true rfl) ⟨Nat.le_of_ble_eq_true rfl, Nat.le_of_ble_eq_true rfl⟩ dL_law_349 rfl (fun ro σC H locs hp hP hD hS => ?_)
  obtain ⟨r, a2, rfl, hrel, hC2⟩ := hp
  have hP := z_swapP hP
  have hD := z_swapD hD
  refine lv_aload_n hx hb dL_law_352 rfl (lv_at hl 2 rfl) ?_
  refine lv_aload_n hx hb dL_law_353 rfl (lv_at hl 0 rfl) ?_
  refine lv_iload_n hx hb dL_law_354 rfl (lv_at hl 3 rfl) ?_
  refine lv_iconst (v := 1) hx hb dL_law_355 (by decide) ?_
  refine lv_iadd hx hb dL_law_356 ?_
  refine va_sld hx hb hX hbl hbA hS i1 dL_law_357 ?_
  refine z_lcall 1 56 5 [.inl (xs (nI i + 1).toNatClampNeg)] (own := RL) (α := β) (vs := [.int (xs (nI i + 1).toNatClampNeg)]) (rest := [.int r]) hx hb hml hown hts hKb hnw hA (zX5_label l) (by decide +kernel) ykX5_label (by decide +kernel) (by decide) h0M (eX5_label (P := fun ro σ2 => ro = some (.inl r) ∧ mSt a2 σ2) hM hrel (fun σ2 h1 => ⟨rfl, h1⟩)) rfl rfl hP hD hS hl.1 (Nat.le_of_ble_eq_true rfl) ⟨Nat.le_of_ble_eq_true rfl, Nat.le_of_ble_eq_true rfl⟩ dL_law_358 rfl (fun ro σM H locs hp hP hD hS => ?_)
  obtain ⟨rfl, hM2⟩ := hp
  have hP := z_swapP hP
  have hD := z_swapD hD
  exact lv_icmp_eq (tgt := 702) hx hb dL_law_361 (by decide) (fun _ => K a2 σC σM H locs ls hC2 hM2 hP hD hS hl) (fun c9 => absurd rfl c9)
set_option maxRecDepth 100000 in
set_option maxHeartbeats 4000000 in
theorem law_10 {p : Program} {l : Launch} {e : Env} {s : State} {m : MethodId} {below : List Frame} {meth : Method} {c : Code} {b L : Nat} {xs : Nat → Int32} {D : va_G} {α β : zA} {i : Nat} (X : LX p s m meth c b L xs D α β) (hi : i + 4 ≤ L) (K : LW p l e s m below meth c b D α β i 702) : LW p l e s m below meth c b D α β i 366 := by
  obtain ⟨hL, ⟨hx, hb, hr, hml, hown, hts0, hX, hbl, hlocks, hgv⟩, hKa, hKb, hnw⟩ := X
  have hts : ∀ w ∈ zAll, w.before #[Value.ref b] s = true := fun w hw => hts0 w (List.mem_filter.mp hw).1
  have hA : ∀ q : Nat, s.heap.size ≤ q → (fun q : Nat => s.heap.size ≤ q) q := fun _ h => h
  have hbA : ¬ (fun q : Nat => s.heap.size ≤ q) b := Nat.not_le.mpr hbl
  have i1 : vp_in (nI i + 1) L := by rw [nI_1]; exact vp_in_nI (by omega) (by omega)
  have i2 : vp_in (nI i + 2) L := by rw [show nI i + 2 = nI (i + 2) from nI_add i 2]; exact vp_in_nI (by omega) (by omega)
  have i3 : vp_in (nI i + 3) L := by rw [show nI i + 3 = nI (i + 3) from nI_add i 3]; exact vp_in_nI (by omega) (by omega)
  intro a σC σM H locs ls hC hM hP hD hS hl
  obtain ⟨fC, h0C⟩ := cSt_0 hC
  obtain ⟨fM, h0M⟩ := mSt_0 hM
  refine lv_aload_n hx hb dL_law_366 rfl (lv_at hl 1 rfl) ?_
  refine lv_aload_n hx hb dL_law_367 rfl (lv_at hl 0 rfl) ?_
  refine lv_iload_n hx hb dL_law_368 rfl (lv_at hl 3 rfl) ?_
  refine lv_iconst (v := 1) hx hb dL_law_369 (by decide) ?_
  refine lv_iadd hx hb dL_law_370 ?_
  refine va_sld hx hb hX hbl hbA hS i1 dL_law_371 ?_
  refine z_lcall 1 57 4 [.inl (xs (nI i + 1).toNatClampNeg)] (own := RL) (α := α) (vs := [.int (xs (nI i + 1).toNatClampNeg)]) (rest := []) hx hb hml hown hts hKa hnw hA (zX4_side l) (by decide +kernel) ykX4_side (by decide +kernel) (by decide) h0C (eX4_side (P := fun ro σ2 => ∃ r a2, ro = some (.inl r) ∧ rNode vSi (xs (nI i + 1).toNatClampNeg) a r a2 ∧ cSt a2 σ2) hC (fun r a2 σ2 h1 h2 => ⟨r, a2, rfl, h1, h2⟩)) rfl rfl hP hD hS hl.1 (Nat.le_of_ble_eq_true rfl) ⟨Nat.le_of_ble_eq_true rfl, Nat.le_of_ble_eq_true rfl⟩ dL_law_372 rfl (fun ro σC H locs hp hP hD hS => ?_)
  obtain ⟨r, a2, rfl, hrel, hC2⟩ := hp
  have hP := z_swapP hP
  have hD := z_swapD hD
  refine lv_aload_n hx hb dL_law_375 rfl (lv_at hl 2 rfl) ?_
  refine lv_aload_n hx hb dL_law_376 rfl (lv_at hl 0 rfl) ?_
  refine lv_iload_n hx hb dL_law_377 rfl (lv_at hl 3 rfl) ?_
  refine lv_iconst (v := 1) hx hb dL_law_378 (by decide) ?_
  refine lv_iadd hx hb dL_law_379 ?_
  refine va_sld hx hb hX hbl hbA hS i1 dL_law_380 ?_
  refine z_lcall 1 60 5 [.inl (xs (nI i + 1).toNatClampNeg)] (own := RL) (α := β) (vs := [.int (xs (nI i + 1).toNatClampNeg)]) (rest := [.int r]) hx hb hml hown hts hKb hnw hA (zX5_side l) (by decide +kernel) ykX5_side (by decide +kernel) (by decide) h0M (eX5_side (P := fun ro σ2 => ro = some (.inl r) ∧ mSt a2 σ2) hM hrel (fun σ2 h1 => ⟨rfl, h1⟩)) rfl rfl hP hD hS hl.1 (Nat.le_of_ble_eq_true rfl) ⟨Nat.le_of_ble_eq_true rfl, Nat.le_of_ble_eq_true rfl⟩ dL_law_381 rfl (fun ro σM H locs hp hP hD hS => ?_)
  obtain ⟨rfl, hM2⟩ := hp
  have hP := z_swapP hP
  have hD := z_swapD hD
  exact lv_icmp_eq (tgt := 702) hx hb dL_law_384 (by decide) (fun _ => K a2 σC σM H locs ls hC2 hM2 hP hD hS hl) (fun c9 => absurd rfl c9)
set_option maxRecDepth 100000 in
set_option maxHeartbeats 4000000 in
theorem law_11 {p : Program} {l : Launch} {e : Env} {s : State} {m : MethodId} {below : List Frame} {meth : Method} {c : Code} {b L : Nat} {xs : Nat → Int32} {D : va_G} {α β : zA} {i : Nat} (X : LX p s m meth c b L xs D α β) (hi : i + 4 ≤ L) (K : LW p l e s m below meth c b D α β i 702) : LW p l e s m below meth c b D α β i 389 := by
  obtain ⟨hL, ⟨hx, hb, hr, hml, hown, hts0, hX, hbl, hlocks, hgv⟩, hKa, hKb, hnw⟩ := X
  have hts : ∀ w ∈ zAll, w.before #[Value.ref b] s = true := fun w hw => hts0 w (List.mem_filter.mp hw).1
  have hA : ∀ q : Nat, s.heap.size ≤ q → (fun q : Nat => s.heap.size ≤ q) q := fun _ h => h
  have hbA : ¬ (fun q : Nat => s.heap.size ≤ q) b := Nat.not_le.mpr hbl
  have i1 : vp_in (nI i + 1) L := by rw [nI_1]; exact vp_in_nI (by omega) (by omega)
  have i2 : vp_in (nI i + 2) L := by rw [show nI i + 2 = nI (i + 2) from nI_add i 2]; exact vp_in_nI (by omega) (by omega)
  have i3 : vp_in (nI i + 3) L := by rw [show nI i + 3 = nI (i + 3) from nI_add i 3]; exact vp_in_nI (by omega) (by omega)
  intro a σC σM H locs ls hC hM hP hD hS hl
  obtain ⟨fC, h0C⟩ := cSt_0 hC
  obtain ⟨fM, h0M⟩ := mSt_0 hM
  refine lv_aload_n hx hb dL_law_389 rfl (lv_at hl 1 rfl) ?_
  refine z_lcall 0 61 4 [] (own := RL) (α := α) (vs := []) (rest := []) hx hb hml hown hts hKa hnw hA (zX4_loss l) (by decide +kernel) ykX4_loss (by decide +kernel) (by decide) h0C (eX4_loss (P := fun ro σ2 => ∃ r a2, ro = some (.inl r) ∧ rLoss  a r a2 ∧ cSt a2 σ2) hC (fun r a2 σ2 h1 h2 => ⟨r, a2, rfl, h1, h2⟩)) rfl rfl hP hD hS hl.1 (Nat.le_of_ble_eq_true rfl) ⟨Nat.le_of_ble_eq_true rfl, Nat.le_of_ble_eq_true rfl⟩ dL_law_390 rfl (fun ro σC H locs hp hP hD hS => ?_)
  obtain ⟨r, a2, rfl, hrel, hC2⟩ := hp
  have hP := z_swapP hP
  have hD := z_swapD hD
  refine lv_aload_n hx hb dL_law_393 rfl (lv_at hl 2 rfl) ?_
  refine z_lcall 0 64 5 [] (own := RL) (α := β) (vs := []) (rest := [.int r]) hx hb hml hown hts hKb hnw hA (zX5_loss l) (by decide +kernel) ykX5_loss (by decide +kernel) (by decide) h0M (eX5_loss (P := fun ro σ2 => ro = some (.inl r) ∧ mSt a2 σ2) hM hrel (fun σ2 h1 => ⟨rfl, h1⟩)) rfl rfl hP hD hS hl.1 (Nat.le_of_ble_eq_true rfl) ⟨Nat.le_of_ble_eq_true rfl, Nat.le_of_ble_eq_true rfl⟩ dL_law_394 rfl (fun ro σM H locs hp hP hD hS => ?_)
  obtain ⟨rfl, hM2⟩ := hp
  have hP := z_swapP hP
  have hD := z_swapD hD
  exact lv_icmp_eq (tgt := 702) hx hb dL_law_397 (by decide) (fun _ => K a2 σC σM H locs ls hC2 hM2 hP hD hS hl) (fun c9 => absurd rfl c9)
set_option maxRecDepth 100000 in
set_option maxHeartbeats 4000000 in
theorem law_12 {p : Program} {l : Launch} {e : Env} {s : State} {m : MethodId} {below : List Frame} {meth : Method} {c : Code} {b L : Nat} {xs : Nat → Int32} {D : va_G} {α β : zA} {i : Nat} (X : LX p s m meth c b L xs D α β) (hi : i + 4 ≤ L) (K : LW p l e s m below meth c b D α β i 702) : LW p l e s m below meth c b D α β i 402 := by
  obtain ⟨hL, ⟨hx, hb, hr, hml, hown, hts0, hX, hbl, hlocks, hgv⟩, hKa, hKb, hnw⟩ := X
  have hts : ∀ w ∈ zAll, w.before #[Value.ref b] s = true := fun w hw => hts0 w (List.mem_filter.mp hw).1
  have hA : ∀ q : Nat, s.heap.size ≤ q → (fun q : Nat => s.heap.size ≤ q) q := fun _ h => h
  have hbA : ¬ (fun q : Nat => s.heap.size ≤ q) b := Nat.not_le.mpr hbl
  have i1 : vp_in (nI i + 1) L := by rw [nI_1]; exact vp_in_nI (by omega) (by omega)
  have i2 : vp_in (nI i + 2) L := by rw [show nI i + 2 = nI (i + 2) from nI_add i 2]; exact vp_in_nI (by omega) (by omega)
  have i3 : vp_in (nI i + 3) L := by rw [show nI i + 3 = nI (i + 3) from nI_add i 3]; exact vp_in_nI (by omega) (by omega)
  intro a σC σM H locs ls hC hM hP hD hS hl
  obtain ⟨fC, h0C⟩ := cSt_0 hC
  obtain ⟨fM, h0M⟩ := mSt_0 hM
  refine lv_aload_n hx hb dL_law_402 rfl (lv_at hl 1 rfl) ?_
  refine lv_aload_n hx hb dL_law_403 rfl (lv_at hl 0 rfl) ?_
  refine lv_iload_n hx hb dL_law_404 rfl (lv_at hl 3 rfl) ?_
  refine lv_iconst (v := 1) hx hb dL_law_405 (by decide) ?_
  refine lv_iadd hx hb dL_law_406 ?_
  refine va_sld hx hb hX hbl hbA hS i1 dL_law_407 ?_
  refine lv_aload_n hx hb dL_law_408 rfl (lv_at hl 0 rfl) ?_
  refine lv_iload_n hx hb dL_law_409 rfl (lv_at hl 3 rfl) ?_
  refine lv_iconst (v := 2) hx hb dL_law_410 (by decide) ?_
  refine lv_iadd hx hb dL_law_411 ?_
  refine va_sld hx hb hX hbl hbA hS i2 dL_law_412 ?_
  refine z_lcall 2 65 4 [.inl (xs (nI i + 1).toNatClampNeg), .inl (xs (nI i + 2).toNatClampNeg)] (own := RL) (α := α) (vs := [.int (xs (nI i + 1).toNatClampNeg), .int (xs (nI i + 2).toNatClampNeg)]) (rest := []) hx hb hml hown hts hKa hnw hA (zX4_lowerBound l) (by decide +kernel) ykX4_lowerBound (by decide +kernel) (by decide) h0C (eX4_lowerBound (P := fun ro σ2 => ∃ r a2, ro = some (.inl r) ∧ rPair lob (xs (nI i + 1).toNatClampNeg) (xs (nI i + 2).toNatClampNeg) a r a2 ∧ cSt a2 σ2) hC (fun r a2 σ2 h1 h2 => ⟨r, a2, rfl, h1, h2⟩)) rfl rfl hP hD hS hl.1 (Nat.le_of_ble_eq_true rfl) ⟨Nat.le_of_ble_eq_true rfl, Nat.le_of_ble_eq_true rfl⟩ dL_law_413 rfl (fun ro σC H locs hp hP hD hS => ?_)
  obtain ⟨r, a2, rfl, hrel, hC2⟩ := hp
  have hP := z_swapP hP
  have hD := z_swapD hD
  refine lv_aload_n hx hb dL_law_416 rfl (lv_at hl 2 rfl) ?_
  refine lv_aload_n hx hb dL_law_417 rfl (lv_at hl 0 rfl) ?_
  refine lv_iload_n hx hb dL_law_418 rfl (lv_at hl 3 rfl) ?_
  refine lv_iconst (v := 1) hx hb dL_law_419 (by decide) ?_
  refine lv_iadd hx hb dL_law_420 ?_
  refine va_sld hx hb hX hbl hbA hS i1 dL_law_421 ?_
  refine lv_aload_n hx hb dL_law_422 rfl (lv_at hl 0 rfl) ?_
  refine lv_iload_n hx hb dL_law_423 rfl (lv_at hl 3 rfl) ?_
  refine lv_iconst (v := 2) hx hb dL_law_424 (by decide) ?_
  refine lv_iadd hx hb dL_law_425 ?_
  refine va_sld hx hb hX hbl hbA hS i2 dL_law_426 ?_
  refine z_lcall 2 68 5 [.inl (xs (nI i + 1).toNatClampNeg), .inl (xs (nI i + 2).toNatClampNeg)] (own := RL) (α := β) (vs := [.int (xs (nI i + 1).toNatClampNeg), .int (xs (nI i + 2).toNatClampNeg)]) (rest := [.int r]) hx hb hml hown hts hKb hnw hA (zX5_lowerBound l) (by decide +kernel) ykX5_lowerBound (by decide +kernel) (by decide) h0M (eX5_lowerBound (P := fun ro σ2 => ro = some (.inl r) ∧ mSt a2 σ2) hM hrel (fun σ2 h1 => ⟨rfl, h1⟩)) rfl rfl hP hD hS hl.1 (Nat.le_of_ble_eq_true rfl) ⟨Nat.le_of_ble_eq_true rfl, Nat.le_of_ble_eq_true rfl⟩ dL_law_427 rfl (fun ro σM H locs hp hP hD hS => ?_)
  obtain ⟨rfl, hM2⟩ := hp
  have hP := z_swapP hP
  have hD := z_swapD hD
  exact lv_icmp_eq (tgt := 702) hx hb dL_law_430 (by decide) (fun _ => K a2 σC σM H locs ls hC2 hM2 hP hD hS hl) (fun c9 => absurd rfl c9)
set_option maxRecDepth 100000 in
set_option maxHeartbeats 4000000 in
theorem law_13 {p : Program} {l : Launch} {e : Env} {s : State} {m : MethodId} {below : List Frame} {meth : Method} {c : Code} {b L : Nat} {xs : Nat → Int32} {D : va_G} {α β : zA} {i : Nat} (X : LX p s m meth c b L xs D α β) (hi : i + 4 ≤ L) (K : LW p l e s m below meth c b D α β i 702) : LW p l e s m below meth c b D α β i 435 := by
  obtain ⟨hL, ⟨hx, hb, hr, hml, hown, hts0, hX, hbl, hlocks, hgv⟩, hKa, hKb, hnw⟩ := X
  have hts : ∀ w ∈ zAll, w.before #[Value.ref b] s = true := fun w hw => hts0 w (List.mem_filter.mp hw).1
  have hA : ∀ q : Nat, s.heap.size ≤ q → (fun q : Nat => s.heap.size ≤ q) q := fun _ h => h
  have hbA : ¬ (fun q : Nat => s.heap.size ≤ q) b := Nat.not_le.mpr hbl
  have i1 : vp_in (nI i + 1) L := by rw [nI_1]; exact vp_in_nI (by omega) (by omega)
  have i2 : vp_in (nI i + 2) L := by rw [show nI i + 2 = nI (i + 2) from nI_add i 2]; exact vp_in_nI (by omega) (by omega)
  have i3 : vp_in (nI i + 3) L := by rw [show nI i + 3 = nI (i + 3) from nI_add i 3]; exact vp_in_nI (by omega) (by omega)
  intro a σC σM H locs ls hC hM hP hD hS hl
  obtain ⟨fC, h0C⟩ := cSt_0 hC
  obtain ⟨fM, h0M⟩ := mSt_0 hM
  refine lv_aload_n hx hb dL_law_435 rfl (lv_at hl 1 rfl) ?_
  refine lv_aload_n hx hb dL_law_436 rfl (lv_at hl 0 rfl) ?_
  refine lv_iload_n hx hb dL_law_437 rfl (lv_at hl 3 rfl) ?_
  refine lv_iconst (v := 1) hx hb dL_law_438 (by decide) ?_
  refine lv_iadd hx hb dL_law_439 ?_
  refine va_sld hx hb hX hbl hbA hS i1 dL_law_440 ?_
  refine lv_aload_n hx hb dL_law_441 rfl (lv_at hl 0 rfl) ?_
  refine lv_iload_n hx hb dL_law_442 rfl (lv_at hl 3 rfl) ?_
  refine lv_iconst (v := 2) hx hb dL_law_443 (by decide) ?_
  refine lv_iadd hx hb dL_law_444 ?_
  refine va_sld hx hb hX hbl hbA hS i2 dL_law_445 ?_
  refine z_lcall 2 69 4 [.inl (xs (nI i + 1).toNatClampNeg), .inl (xs (nI i + 2).toNatClampNeg)] (own := RL) (α := α) (vs := [.int (xs (nI i + 1).toNatClampNeg), .int (xs (nI i + 2).toNatClampNeg)]) (rest := []) hx hb hml hown hts hKa hnw hA (zX4_upperBound l) (by decide +kernel) ykX4_upperBound (by decide +kernel) (by decide) h0C (eX4_upperBound (P := fun ro σ2 => ∃ r a2, ro = some (.inl r) ∧ rPair upb (xs (nI i + 1).toNatClampNeg) (xs (nI i + 2).toNatClampNeg) a r a2 ∧ cSt a2 σ2) hC (fun r a2 σ2 h1 h2 => ⟨r, a2, rfl, h1, h2⟩)) rfl rfl hP hD hS hl.1 (Nat.le_of_ble_eq_true rfl) ⟨Nat.le_of_ble_eq_true rfl, Nat.le_of_ble_eq_true rfl⟩ dL_law_446 rfl (fun ro σC H locs hp hP hD hS => ?_)
  obtain ⟨r, a2, rfl, hrel, hC2⟩ := hp
  have hP := z_swapP hP
  have hD := z_swapD hD
  refine lv_aload_n hx hb dL_law_449 rfl (lv_at hl 2 rfl) ?_
  refine lv_aload_n hx hb dL_law_450 rfl (lv_at hl 0 rfl) ?_
  refine lv_iload_n hx hb dL_law_451 rfl (lv_at hl 3 rfl) ?_
  refine lv_iconst (v := 1) hx hb dL_law_452 (by decide) ?_
  refine lv_iadd hx hb dL_law_453 ?_
  refine va_sld hx hb hX hbl hbA hS i1 dL_law_454 ?_
  refine lv_aload_n hx hb dL_law_455 rfl (lv_at hl 0 rfl) ?_
  refine lv_iload_n hx hb dL_law_456 rfl (lv_at hl 3 rfl) ?_
  refine lv_iconst (v := 2) hx hb dL_law_457 (by decide) ?_
  refine lv_iadd hx hb dL_law_458 ?_
  refine va_sld hx hb hX hbl hbA hS i2 dL_law_459 ?_
  refine z_lcall 2 72 5 [.inl (xs (nI i + 1).toNatClampNeg), .inl (xs (nI i + 2).toNatClampNeg)] (own := RL) (α := β) (vs := [.int (xs (nI i + 1).toNatClampNeg), .int (xs (nI i + 2).toNatClampNeg)]) (rest := [.int r]) hx hb hml hown hts hKb hnw hA (zX5_upperBound l) (by decide +kernel) ykX5_upperBound (by decide +kernel) (by decide) h0M (eX5_upperBound (P := fun ro σ2 => ro = some (.inl r) ∧ mSt a2 σ2) hM hrel (fun σ2 h1 => ⟨rfl, h1⟩)) rfl rfl hP hD hS hl.1 (Nat.le_of_ble_eq_true rfl) ⟨Nat.le_of_ble_eq_true rfl, Nat.le_of_ble_eq_true rfl⟩ dL_law_460 rfl (fun ro σM H locs hp hP hD hS => ?_)
  obtain ⟨rfl, hM2⟩ := hp
  have hP := z_swapP hP
  have hD := z_swapD hD
  exact lv_icmp_eq (tgt := 702) hx hb dL_law_463 (by decide) (fun _ => K a2 σC σM H locs ls hC2 hM2 hP hD hS hl) (fun c9 => absurd rfl c9)
set_option maxRecDepth 100000 in
set_option maxHeartbeats 4000000 in
theorem law_14 {p : Program} {l : Launch} {e : Env} {s : State} {m : MethodId} {below : List Frame} {meth : Method} {c : Code} {b L : Nat} {xs : Nat → Int32} {D : va_G} {α β : zA} {i : Nat} (X : LX p s m meth c b L xs D α β) (hi : i + 4 ≤ L) (K : LW p l e s m below meth c b D α β i 702) : LW p l e s m below meth c b D α β i 468 := by
  obtain ⟨hL, ⟨hx, hb, hr, hml, hown, hts0, hX, hbl, hlocks, hgv⟩, hKa, hKb, hnw⟩ := X
  have hts : ∀ w ∈ zAll, w.before #[Value.ref b] s = true := fun w hw => hts0 w (List.mem_filter.mp hw).1
  have hA : ∀ q : Nat, s.heap.size ≤ q → (fun q : Nat => s.heap.size ≤ q) q := fun _ h => h
  have hbA : ¬ (fun q : Nat => s.heap.size ≤ q) b := Nat.not_le.mpr hbl
  have i1 : vp_in (nI i + 1) L := by rw [nI_1]; exact vp_in_nI (by omega) (by omega)
  have i2 : vp_in (nI i + 2) L := by rw [show nI i + 2 = nI (i + 2) from nI_add i 2]; exact vp_in_nI (by omega) (by omega)
  have i3 : vp_in (nI i + 3) L := by rw [show nI i + 3 = nI (i + 3) from nI_add i 3]; exact vp_in_nI (by omega) (by omega)
  intro a σC σM H locs ls hC hM hP hD hS hl
  obtain ⟨fC, h0C⟩ := cSt_0 hC
  obtain ⟨fM, h0M⟩ := mSt_0 hM
  refine lv_aload_n hx hb dL_law_468 rfl (lv_at hl 1 rfl) ?_
  refine lv_aload_n hx hb dL_law_469 rfl (lv_at hl 0 rfl) ?_
  refine lv_iload_n hx hb dL_law_470 rfl (lv_at hl 3 rfl) ?_
  refine lv_iconst (v := 1) hx hb dL_law_471 (by decide) ?_
  refine lv_iadd hx hb dL_law_472 ?_
  refine va_sld hx hb hX hbl hbA hS i1 dL_law_473 ?_
  refine lv_aload_n hx hb dL_law_474 rfl (lv_at hl 0 rfl) ?_
  refine lv_iload_n hx hb dL_law_475 rfl (lv_at hl 3 rfl) ?_
  refine lv_iconst (v := 2) hx hb dL_law_476 (by decide) ?_
  refine lv_iadd hx hb dL_law_477 ?_
  refine va_sld hx hb hX hbl hbA hS i2 dL_law_478 ?_
  refine z_lcall 2 73 4 [.inl (xs (nI i + 1).toNatClampNeg), .inl (xs (nI i + 2).toNatClampNeg)] (own := RL) (α := α) (vs := [.int (xs (nI i + 1).toNatClampNeg), .int (xs (nI i + 2).toNatClampNeg)]) (rest := []) hx hb hml hown hts hKa hnw hA (zX4_minimumCut l) (by decide +kernel) ykX4_minimumCut (by decide +kernel) (by decide) h0C (eX4_minimumCut (P := fun ro σ2 => ∃ r a2, ro = some (.inl r) ∧ rMin (xs (nI i + 1).toNatClampNeg) (xs (nI i + 2).toNatClampNeg) a r a2 ∧ cSt a2 σ2) hC (fun r a2 σ2 h1 h2 => ⟨r, a2, rfl, h1, h2⟩)) rfl rfl hP hD hS hl.1 (Nat.le_of_ble_eq_true rfl) ⟨Nat.le_of_ble_eq_true rfl, Nat.le_of_ble_eq_true rfl⟩ dL_law_479 rfl (fun ro σC H locs hp hP hD hS => ?_)
  obtain ⟨r, a2, rfl, hrel, hC2⟩ := hp
  have hP := z_swapP hP
  have hD := z_swapD hD
  refine lv_aload_n hx hb dL_law_482 rfl (lv_at hl 2 rfl) ?_
  refine lv_aload_n hx hb dL_law_483 rfl (lv_at hl 0 rfl) ?_
  refine lv_iload_n hx hb dL_law_484 rfl (lv_at hl 3 rfl) ?_
  refine lv_iconst (v := 1) hx hb dL_law_485 (by decide) ?_
  refine lv_iadd hx hb dL_law_486 ?_
  refine va_sld hx hb hX hbl hbA hS i1 dL_law_487 ?_
  refine lv_aload_n hx hb dL_law_488 rfl (lv_at hl 0 rfl) ?_
  refine lv_iload_n hx hb dL_law_489 rfl (lv_at hl 3 rfl) ?_
  refine lv_iconst (v := 2) hx hb dL_law_490 (by decide) ?_
  refine lv_iadd hx hb dL_law_491 ?_
  refine va_sld hx hb hX hbl hbA hS i2 dL_law_492 ?_
  refine z_lcall 2 76 5 [.inl (xs (nI i + 1).toNatClampNeg), .inl (xs (nI i + 2).toNatClampNeg)] (own := RL) (α := β) (vs := [.int (xs (nI i + 1).toNatClampNeg), .int (xs (nI i + 2).toNatClampNeg)]) (rest := [.int r]) hx hb hml hown hts hKb hnw hA (zX5_minimumCut l) (by decide +kernel) ykX5_minimumCut (by decide +kernel) (by decide) h0M (eX5_minimumCut (P := fun ro σ2 => ro = some (.inl r) ∧ mSt a2 σ2) hM hrel (fun σ2 h1 => ⟨rfl, h1⟩)) rfl rfl hP hD hS hl.1 (Nat.le_of_ble_eq_true rfl) ⟨Nat.le_of_ble_eq_true rfl, Nat.le_of_ble_eq_true rfl⟩ dL_law_493 rfl (fun ro σM H locs hp hP hD hS => ?_)
  obtain ⟨rfl, hM2⟩ := hp
  have hP := z_swapP hP
  have hD := z_swapD hD
  exact lv_icmp_eq (tgt := 702) hx hb dL_law_496 (by decide) (fun _ => K a2 σC σM H locs ls hC2 hM2 hP hD hS hl) (fun c9 => absurd rfl c9)
set_option maxRecDepth 100000 in
set_option maxHeartbeats 4000000 in
theorem law_15 {p : Program} {l : Launch} {e : Env} {s : State} {m : MethodId} {below : List Frame} {meth : Method} {c : Code} {b L : Nat} {xs : Nat → Int32} {D : va_G} {α β : zA} {i : Nat} (X : LX p s m meth c b L xs D α β) (hi : i + 4 ≤ L) (K : LW p l e s m below meth c b D α β i 702) : LW p l e s m below meth c b D α β i 501 := by
  obtain ⟨hL, ⟨hx, hb, hr, hml, hown, hts0, hX, hbl, hlocks, hgv⟩, hKa, hKb, hnw⟩ := X
  have hts : ∀ w ∈ zAll, w.before #[Value.ref b] s = true := fun w hw => hts0 w (List.mem_filter.mp hw).1
  have hA : ∀ q : Nat, s.heap.size ≤ q → (fun q : Nat => s.heap.size ≤ q) q := fun _ h => h
  have hbA : ¬ (fun q : Nat => s.heap.size ≤ q) b := Nat.not_le.mpr hbl
  have i1 : vp_in (nI i + 1) L := by rw [nI_1]; exact vp_in_nI (by omega) (by omega)
  have i2 : vp_in (nI i + 2) L := by rw [show nI i + 2 = nI (i + 2) from nI_add i 2]; exact vp_in_nI (by omega) (by omega)
  have i3 : vp_in (nI i + 3) L := by rw [show nI i + 3 = nI (i + 3) from nI_add i 3]; exact vp_in_nI (by omega) (by omega)
  intro a σC σM H locs ls hC hM hP hD hS hl
  obtain ⟨fC, h0C⟩ := cSt_0 hC
  obtain ⟨fM, h0M⟩ := mSt_0 hM
  refine lv_aload_n hx hb dL_law_501 rfl (lv_at hl 1 rfl) ?_
  refine lv_aload_n hx hb dL_law_502 rfl (lv_at hl 0 rfl) ?_
  refine lv_iload_n hx hb dL_law_503 rfl (lv_at hl 3 rfl) ?_
  refine lv_iconst (v := 1) hx hb dL_law_504 (by decide) ?_
  refine lv_iadd hx hb dL_law_505 ?_
  refine va_sld hx hb hX hbl hbA hS i1 dL_law_506 ?_
  refine lv_aload_n hx hb dL_law_507 rfl (lv_at hl 0 rfl) ?_
  refine lv_iload_n hx hb dL_law_508 rfl (lv_at hl 3 rfl) ?_
  refine lv_iconst (v := 2) hx hb dL_law_509 (by decide) ?_
  refine lv_iadd hx hb dL_law_510 ?_
  refine va_sld hx hb hX hbl hbA hS i2 dL_law_511 ?_
  refine z_lcall 2 77 4 [.inl (xs (nI i + 1).toNatClampNeg), .inl (xs (nI i + 2).toNatClampNeg)] (own := RL) (α := α) (vs := [.int (xs (nI i + 1).toNatClampNeg), .int (xs (nI i + 2).toNatClampNeg)]) (rest := []) hx hb hml hown hts hKa hnw hA (zX4_witness l) (by decide +kernel) ykX4_witness (by decide +kernel) (by decide) h0C (eX4_witness (P := fun ro σ2 => ∃ r a2, ro = some (.inl r) ∧ rWit (xs (nI i + 1).toNatClampNeg) (xs (nI i + 2).toNatClampNeg) a r a2 ∧ cSt a2 σ2) hC (fun r a2 σ2 h1 h2 => ⟨r, a2, rfl, h1, h2⟩)) rfl rfl hP hD hS hl.1 (Nat.le_of_ble_eq_true rfl) ⟨Nat.le_of_ble_eq_true rfl, Nat.le_of_ble_eq_true rfl⟩ dL_law_512 rfl (fun ro σC H locs hp hP hD hS => ?_)
  obtain ⟨r, a2, rfl, hrel, hC2⟩ := hp
  have hP := z_swapP hP
  have hD := z_swapD hD
  refine lv_aload_n hx hb dL_law_515 rfl (lv_at hl 2 rfl) ?_
  refine lv_aload_n hx hb dL_law_516 rfl (lv_at hl 0 rfl) ?_
  refine lv_iload_n hx hb dL_law_517 rfl (lv_at hl 3 rfl) ?_
  refine lv_iconst (v := 1) hx hb dL_law_518 (by decide) ?_
  refine lv_iadd hx hb dL_law_519 ?_
  refine va_sld hx hb hX hbl hbA hS i1 dL_law_520 ?_
  refine lv_aload_n hx hb dL_law_521 rfl (lv_at hl 0 rfl) ?_
  refine lv_iload_n hx hb dL_law_522 rfl (lv_at hl 3 rfl) ?_
  refine lv_iconst (v := 2) hx hb dL_law_523 (by decide) ?_
  refine lv_iadd hx hb dL_law_524 ?_
  refine va_sld hx hb hX hbl hbA hS i2 dL_law_525 ?_
  refine z_lcall 2 80 5 [.inl (xs (nI i + 1).toNatClampNeg), .inl (xs (nI i + 2).toNatClampNeg)] (own := RL) (α := β) (vs := [.int (xs (nI i + 1).toNatClampNeg), .int (xs (nI i + 2).toNatClampNeg)]) (rest := [.int r]) hx hb hml hown hts hKb hnw hA (zX5_witness l) (by decide +kernel) ykX5_witness (by decide +kernel) (by decide) h0M (eX5_witness (P := fun ro σ2 => ro = some (.inl r) ∧ mSt a2 σ2) hM hrel (fun σ2 h1 => ⟨rfl, h1⟩)) rfl rfl hP hD hS hl.1 (Nat.le_of_ble_eq_true rfl) ⟨Nat.le_of_ble_eq_true rfl, Nat.le_of_ble_eq_true rfl⟩ dL_law_526 rfl (fun ro σM H locs hp hP hD hS => ?_)
  obtain ⟨rfl, hM2⟩ := hp
  have hP := z_swapP hP
  have hD := z_swapD hD
  exact lv_icmp_eq (tgt := 702) hx hb dL_law_529 (by decide) (fun _ => K a2 σC σM H locs ls hC2 hM2 hP hD hS hl) (fun c9 => absurd rfl c9)
set_option maxRecDepth 100000 in
set_option maxHeartbeats 4000000 in
theorem law_16 {p : Program} {l : Launch} {e : Env} {s : State} {m : MethodId} {below : List Frame} {meth : Method} {c : Code} {b L : Nat} {xs : Nat → Int32} {D : va_G} {α β : zA} {i : Nat} (X : LX p s m meth c b L xs D α β) (hi : i + 4 ≤ L) (K : LW p l e s m below meth c b D α β i 702) : LW p l e s m below meth c b D α β i 534 := by
  obtain ⟨hL, ⟨hx, hb, hr, hml, hown, hts0, hX, hbl, hlocks, hgv⟩, hKa, hKb, hnw⟩ := X
  have hts : ∀ w ∈ zAll, w.before #[Value.ref b] s = true := fun w hw => hts0 w (List.mem_filter.mp hw).1
  have hA : ∀ q : Nat, s.heap.size ≤ q → (fun q : Nat => s.heap.size ≤ q) q := fun _ h => h
  have hbA : ¬ (fun q : Nat => s.heap.size ≤ q) b := Nat.not_le.mpr hbl
  have i1 : vp_in (nI i + 1) L := by rw [nI_1]; exact vp_in_nI (by omega) (by omega)
  have i2 : vp_in (nI i + 2) L := by rw [show nI i + 2 = nI (i + 2) from nI_add i 2]; exact vp_in_nI (by omega) (by omega)
  have i3 : vp_in (nI i + 3) L := by rw [show nI i + 3 = nI (i + 3) from nI_add i 3]; exact vp_in_nI (by omega) (by omega)
  intro a σC σM H locs ls hC hM hP hD hS hl
  obtain ⟨fC, h0C⟩ := cSt_0 hC
  obtain ⟨fM, h0M⟩ := mSt_0 hM
  refine lv_aload_n hx hb dL_law_534 rfl (lv_at hl 1 rfl) ?_
  refine lv_aload_n hx hb dL_law_535 rfl (lv_at hl 0 rfl) ?_
  refine lv_iload_n hx hb dL_law_536 rfl (lv_at hl 3 rfl) ?_
  refine lv_iconst (v := 1) hx hb dL_law_537 (by decide) ?_
  refine lv_iadd hx hb dL_law_538 ?_
  refine va_sld hx hb hX hbl hbA hS i1 dL_law_539 ?_
  refine lv_aload_n hx hb dL_law_540 rfl (lv_at hl 0 rfl) ?_
  refine lv_iload_n hx hb dL_law_541 rfl (lv_at hl 3 rfl) ?_
  refine lv_iconst (v := 2) hx hb dL_law_542 (by decide) ?_
  refine lv_iadd hx hb dL_law_543 ?_
  refine va_sld hx hb hX hbl hbA hS i2 dL_law_544 ?_
  refine lv_aload_n hx hb dL_law_545 rfl (lv_at hl 0 rfl) ?_
  refine lv_iload_n hx hb dL_law_546 rfl (lv_at hl 3 rfl) ?_
  refine lv_iconst (v := 3) hx hb dL_law_547 (by decide) ?_
  refine lv_iadd hx hb dL_law_548 ?_
  refine va_sld hx hb hX hbl hbA hS i3 dL_law_549 ?_
  refine z_lcall 3 81 4 [.inl (xs (nI i + 1).toNatClampNeg), .inl (xs (nI i + 2).toNatClampNeg), .inl (xs (nI i + 3).toNatClampNeg)] (own := RL) (α := α) (vs := [.int (xs (nI i + 1).toNatClampNeg), .int (xs (nI i + 2).toNatClampNeg), .int (xs (nI i + 3).toNatClampNeg)]) (rest := []) hx hb hml hown hts hKa hnw hA (zX4_isAtLeast l) (by decide +kernel) ykX4_isAtLeast (by decide +kernel) (by decide) h0C (eX4_isAtLeast (P := fun ro σ2 => ∃ r a2, ro = some (.inl r) ∧ rAt (xs (nI i + 1).toNatClampNeg) (xs (nI i + 2).toNatClampNeg) (xs (nI i + 3).toNatClampNeg) a r a2 ∧ cSt a2 σ2) hC (fun r a2 σ2 h1 h2 => ⟨r, a2, rfl, h1, h2⟩)) rfl rfl hP hD hS hl.1 (Nat.le_of_ble_eq_true rfl) ⟨Nat.le_of_ble_eq_true rfl, Nat.le_of_ble_eq_true rfl⟩ dL_law_550 rfl (fun ro σC H locs hp hP hD hS => ?_)
  obtain ⟨r, a2, rfl, hrel, hC2⟩ := hp
  have hP := z_swapP hP
  have hD := z_swapD hD
  refine lv_aload_n hx hb dL_law_553 rfl (lv_at hl 2 rfl) ?_
  refine lv_aload_n hx hb dL_law_554 rfl (lv_at hl 0 rfl) ?_
  refine lv_iload_n hx hb dL_law_555 rfl (lv_at hl 3 rfl) ?_
  refine lv_iconst (v := 1) hx hb dL_law_556 (by decide) ?_
  refine lv_iadd hx hb dL_law_557 ?_
  refine va_sld hx hb hX hbl hbA hS i1 dL_law_558 ?_
  refine lv_aload_n hx hb dL_law_559 rfl (lv_at hl 0 rfl) ?_
  refine lv_iload_n hx hb dL_law_560 rfl (lv_at hl 3 rfl) ?_
  refine lv_iconst (v := 2) hx hb dL_law_561 (by decide) ?_
  refine lv_iadd hx hb dL_law_562 ?_
  refine va_sld hx hb hX hbl hbA hS i2 dL_law_563 ?_
  refine lv_aload_n hx hb dL_law_564 rfl (lv_at hl 0 rfl) ?_
  refine lv_iload_n hx hb dL_law_565 rfl (lv_at hl 3 rfl) ?_
  refine lv_iconst (v := 3) hx hb dL_law_566 (by decide) ?_
  refine lv_iadd hx hb dL_law_567 ?_
  refine va_sld hx hb hX hbl hbA hS i3 dL_law_568 ?_
  refine z_lcall 3 84 5 [.inl (xs (nI i + 1).toNatClampNeg), .inl (xs (nI i + 2).toNatClampNeg), .inl (xs (nI i + 3).toNatClampNeg)] (own := RL) (α := β) (vs := [.int (xs (nI i + 1).toNatClampNeg), .int (xs (nI i + 2).toNatClampNeg), .int (xs (nI i + 3).toNatClampNeg)]) (rest := [.int r]) hx hb hml hown hts hKb hnw hA (zX5_isAtLeast l) (by decide +kernel) ykX5_isAtLeast (by decide +kernel) (by decide) h0M (eX5_isAtLeast (P := fun ro σ2 => ro = some (.inl r) ∧ mSt a2 σ2) hM hrel (fun σ2 h1 => ⟨rfl, h1⟩)) rfl rfl hP hD hS hl.1 (Nat.le_of_ble_eq_true rfl) ⟨Nat.le_of_ble_eq_true rfl, Nat.le_of_ble_eq_true rfl⟩ dL_law_569 rfl (fun ro σM H locs hp hP hD hS => ?_)
  obtain ⟨rfl, hM2⟩ := hp
  have hP := z_swapP hP
  have hD := z_swapD hD
  exact lv_icmp_eq (tgt := 702) hx hb dL_law_572 (by decide) (fun _ => K a2 σC σM H locs ls hC2 hM2 hP hD hS hl) (fun c9 => absurd rfl c9)
set_option maxRecDepth 100000 in
set_option maxHeartbeats 4000000 in
theorem law_17 {p : Program} {l : Launch} {e : Env} {s : State} {m : MethodId} {below : List Frame} {meth : Method} {c : Code} {b L : Nat} {xs : Nat → Int32} {D : va_G} {α β : zA} {i : Nat} (X : LX p s m meth c b L xs D α β) (hi : i + 4 ≤ L) (K : LW p l e s m below meth c b D α β i 702) : LW p l e s m below meth c b D α β i 577 := by
  obtain ⟨hL, ⟨hx, hb, hr, hml, hown, hts0, hX, hbl, hlocks, hgv⟩, hKa, hKb, hnw⟩ := X
  have hts : ∀ w ∈ zAll, w.before #[Value.ref b] s = true := fun w hw => hts0 w (List.mem_filter.mp hw).1
  have hA : ∀ q : Nat, s.heap.size ≤ q → (fun q : Nat => s.heap.size ≤ q) q := fun _ h => h
  have hbA : ¬ (fun q : Nat => s.heap.size ≤ q) b := Nat.not_le.mpr hbl
  have i1 : vp_in (nI i + 1) L := by rw [nI_1]; exact vp_in_nI (by omega) (by omega)
  have i2 : vp_in (nI i + 2) L := by rw [show nI i + 2 = nI (i + 2) from nI_add i 2]; exact vp_in_nI (by omega) (by omega)
  have i3 : vp_in (nI i + 3) L := by rw [show nI i + 3 = nI (i + 3) from nI_add i 3]; exact vp_in_nI (by omega) (by omega)
  intro a σC σM H locs ls hC hM hP hD hS hl
  obtain ⟨fC, h0C⟩ := cSt_0 hC
  obtain ⟨fM, h0M⟩ := mSt_0 hM
  refine lv_aload_n hx hb dL_law_577 rfl (lv_at hl 1 rfl) ?_
  refine lv_aload_n hx hb dL_law_578 rfl (lv_at hl 0 rfl) ?_
  refine lv_iload_n hx hb dL_law_579 rfl (lv_at hl 3 rfl) ?_
  refine lv_iconst (v := 1) hx hb dL_law_580 (by decide) ?_
  refine lv_iadd hx hb dL_law_581 ?_
  refine va_sld hx hb hX hbl hbA hS i1 dL_law_582 ?_
  refine z_lcall 1 85 4 [.inl (xs (nI i + 1).toNatClampNeg)] (own := RL) (α := α) (vs := [.int (xs (nI i + 1).toNatClampNeg)]) (rest := []) hx hb hml hown hts hKa hnw hA (zX4_lightCut l) (by decide +kernel) ykX4_lightCut (by decide +kernel) (by decide) h0C (eX4_lightCut (P := fun ro σ2 => ∃ r a2, ro = some (.inl r) ∧ rLight (xs (nI i + 1).toNatClampNeg) a r a2 ∧ cSt a2 σ2) hC (fun r a2 σ2 h1 h2 => ⟨r, a2, rfl, h1, h2⟩)) rfl rfl hP hD hS hl.1 (Nat.le_of_ble_eq_true rfl) ⟨Nat.le_of_ble_eq_true rfl, Nat.le_of_ble_eq_true rfl⟩ dL_law_583 rfl (fun ro σC H locs hp hP hD hS => ?_)
  obtain ⟨r, a2, rfl, hrel, hC2⟩ := hp
  have hP := z_swapP hP
  have hD := z_swapD hD
  refine lv_aload_n hx hb dL_law_586 rfl (lv_at hl 2 rfl) ?_
  refine lv_aload_n hx hb dL_law_587 rfl (lv_at hl 0 rfl) ?_
  refine lv_iload_n hx hb dL_law_588 rfl (lv_at hl 3 rfl) ?_
  refine lv_iconst (v := 1) hx hb dL_law_589 (by decide) ?_
  refine lv_iadd hx hb dL_law_590 ?_
  refine va_sld hx hb hX hbl hbA hS i1 dL_law_591 ?_
  refine z_lcall 1 88 5 [.inl (xs (nI i + 1).toNatClampNeg)] (own := RL) (α := β) (vs := [.int (xs (nI i + 1).toNatClampNeg)]) (rest := [.int r]) hx hb hml hown hts hKb hnw hA (zX5_lightCut l) (by decide +kernel) ykX5_lightCut (by decide +kernel) (by decide) h0M (eX5_lightCut (P := fun ro σ2 => ro = some (.inl r) ∧ mSt a2 σ2) hM hrel (fun σ2 h1 => ⟨rfl, h1⟩)) rfl rfl hP hD hS hl.1 (Nat.le_of_ble_eq_true rfl) ⟨Nat.le_of_ble_eq_true rfl, Nat.le_of_ble_eq_true rfl⟩ dL_law_592 rfl (fun ro σM H locs hp hP hD hS => ?_)
  obtain ⟨rfl, hM2⟩ := hp
  have hP := z_swapP hP
  have hD := z_swapD hD
  exact lv_icmp_eq (tgt := 702) hx hb dL_law_595 (by decide) (fun _ => K a2 σC σM H locs ls hC2 hM2 hP hD hS hl) (fun c9 => absurd rfl c9)
set_option maxRecDepth 100000 in
set_option maxHeartbeats 4000000 in
theorem law_18 {p : Program} {l : Launch} {e : Env} {s : State} {m : MethodId} {below : List Frame} {meth : Method} {c : Code} {b L : Nat} {xs : Nat → Int32} {D : va_G} {α β : zA} {i : Nat} (X : LX p s m meth c b L xs D α β) (hi : i + 4 ≤ L) (K : LW p l e s m below meth c b D α β i 702) : LW p l e s m below meth c b D α β i 600 := by
  obtain ⟨hL, ⟨hx, hb, hr, hml, hown, hts0, hX, hbl, hlocks, hgv⟩, hKa, hKb, hnw⟩ := X
  have hts : ∀ w ∈ zAll, w.before #[Value.ref b] s = true := fun w hw => hts0 w (List.mem_filter.mp hw).1
  have hA : ∀ q : Nat, s.heap.size ≤ q → (fun q : Nat => s.heap.size ≤ q) q := fun _ h => h
  have hbA : ¬ (fun q : Nat => s.heap.size ≤ q) b := Nat.not_le.mpr hbl
  have i1 : vp_in (nI i + 1) L := by rw [nI_1]; exact vp_in_nI (by omega) (by omega)
  have i2 : vp_in (nI i + 2) L := by rw [show nI i + 2 = nI (i + 2) from nI_add i 2]; exact vp_in_nI (by omega) (by omega)
  have i3 : vp_in (nI i + 3) L := by rw [show nI i + 3 = nI (i + 3) from nI_add i 3]; exact vp_in_nI (by omega) (by omega)
  intro a σC σM H locs ls hC hM hP hD hS hl
  obtain ⟨fC, h0C⟩ := cSt_0 hC
  obtain ⟨fM, h0M⟩ := mSt_0 hM
  refine lv_aload_n hx hb dL_law_600 rfl (lv_at hl 1 rfl) ?_
  refine lv_aload_n hx hb dL_law_601 rfl (lv_at hl 0 rfl) ?_
  refine lv_iload_n hx hb dL_law_602 rfl (lv_at hl 3 rfl) ?_
  refine lv_iconst (v := 1) hx hb dL_law_603 (by decide) ?_
  refine lv_iadd hx hb dL_law_604 ?_
  refine va_sld hx hb hX hbl hbA hS i1 dL_law_605 ?_
  refine z_lcall 1 89 4 [.inl (xs (nI i + 1).toNatClampNeg)] (own := RL) (α := α) (vs := [.int (xs (nI i + 1).toNatClampNeg)]) (rest := []) hx hb hml hown hts hKa hnw hA (zX4_classCount l) (by decide +kernel) ykX4_classCount (by decide +kernel) (by decide) h0C (eX4_classCount (P := fun ro σ2 => ∃ r a2, ro = some (.inl r) ∧ rCC (xs (nI i + 1).toNatClampNeg) a r a2 ∧ cSt a2 σ2) hC (fun r a2 σ2 h1 h2 => ⟨r, a2, rfl, h1, h2⟩)) rfl rfl hP hD hS hl.1 (Nat.le_of_ble_eq_true rfl) ⟨Nat.le_of_ble_eq_true rfl, Nat.le_of_ble_eq_true rfl⟩ dL_law_606 rfl (fun ro σC H locs hp hP hD hS => ?_)
  obtain ⟨r, a2, rfl, hrel, hC2⟩ := hp
  have hP := z_swapP hP
  have hD := z_swapD hD
  refine lv_aload_n hx hb dL_law_609 rfl (lv_at hl 2 rfl) ?_
  refine lv_aload_n hx hb dL_law_610 rfl (lv_at hl 0 rfl) ?_
  refine lv_iload_n hx hb dL_law_611 rfl (lv_at hl 3 rfl) ?_
  refine lv_iconst (v := 1) hx hb dL_law_612 (by decide) ?_
  refine lv_iadd hx hb dL_law_613 ?_
  refine va_sld hx hb hX hbl hbA hS i1 dL_law_614 ?_
  refine z_lcall 1 92 5 [.inl (xs (nI i + 1).toNatClampNeg)] (own := RL) (α := β) (vs := [.int (xs (nI i + 1).toNatClampNeg)]) (rest := [.int r]) hx hb hml hown hts hKb hnw hA (zX5_classCount l) (by decide +kernel) ykX5_classCount (by decide +kernel) (by decide) h0M (eX5_classCount (P := fun ro σ2 => ro = some (.inl r) ∧ mSt a2 σ2) hM hrel (fun σ2 h1 => ⟨rfl, h1⟩)) rfl rfl hP hD hS hl.1 (Nat.le_of_ble_eq_true rfl) ⟨Nat.le_of_ble_eq_true rfl, Nat.le_of_ble_eq_true rfl⟩ dL_law_615 rfl (fun ro σM H locs hp hP hD hS => ?_)
  obtain ⟨rfl, hM2⟩ := hp
  have hP := z_swapP hP
  have hD := z_swapD hD
  exact lv_icmp_eq (tgt := 702) hx hb dL_law_618 (by decide) (fun _ => K a2 σC σM H locs ls hC2 hM2 hP hD hS hl) (fun c9 => absurd rfl c9)
set_option maxRecDepth 100000 in
set_option maxHeartbeats 4000000 in
theorem law_19 {p : Program} {l : Launch} {e : Env} {s : State} {m : MethodId} {below : List Frame} {meth : Method} {c : Code} {b L : Nat} {xs : Nat → Int32} {D : va_G} {α β : zA} {i : Nat} (X : LX p s m meth c b L xs D α β) (hi : i + 4 ≤ L) (K : LW p l e s m below meth c b D α β i 702) : LW p l e s m below meth c b D α β i 623 := by
  obtain ⟨hL, ⟨hx, hb, hr, hml, hown, hts0, hX, hbl, hlocks, hgv⟩, hKa, hKb, hnw⟩ := X
  have hts : ∀ w ∈ zAll, w.before #[Value.ref b] s = true := fun w hw => hts0 w (List.mem_filter.mp hw).1
  have hA : ∀ q : Nat, s.heap.size ≤ q → (fun q : Nat => s.heap.size ≤ q) q := fun _ h => h
  have hbA : ¬ (fun q : Nat => s.heap.size ≤ q) b := Nat.not_le.mpr hbl
  have i1 : vp_in (nI i + 1) L := by rw [nI_1]; exact vp_in_nI (by omega) (by omega)
  have i2 : vp_in (nI i + 2) L := by rw [show nI i + 2 = nI (i + 2) from nI_add i 2]; exact vp_in_nI (by omega) (by omega)
  have i3 : vp_in (nI i + 3) L := by rw [show nI i + 3 = nI (i + 3) from nI_add i 3]; exact vp_in_nI (by omega) (by omega)
  intro a σC σM H locs ls hC hM hP hD hS hl
  obtain ⟨fC, h0C⟩ := cSt_0 hC
  obtain ⟨fM, h0M⟩ := mSt_0 hM
  refine lv_aload_n hx hb dL_law_623 rfl (lv_at hl 1 rfl) ?_
  refine lv_aload_n hx hb dL_law_624 rfl (lv_at hl 0 rfl) ?_
  refine lv_iload_n hx hb dL_law_625 rfl (lv_at hl 3 rfl) ?_
  refine lv_iconst (v := 1) hx hb dL_law_626 (by decide) ?_
  refine lv_iadd hx hb dL_law_627 ?_
  refine va_sld hx hb hX hbl hbA hS i1 dL_law_628 ?_
  refine lv_aload_n hx hb dL_law_629 rfl (lv_at hl 0 rfl) ?_
  refine lv_iload_n hx hb dL_law_630 rfl (lv_at hl 3 rfl) ?_
  refine lv_iconst (v := 2) hx hb dL_law_631 (by decide) ?_
  refine lv_iadd hx hb dL_law_632 ?_
  refine va_sld hx hb hX hbl hbA hS i2 dL_law_633 ?_
  refine z_lcall 2 93 4 [.inl (xs (nI i + 1).toNatClampNeg), .inl (xs (nI i + 2).toNatClampNeg)] (own := RL) (α := α) (vs := [.int (xs (nI i + 1).toNatClampNeg), .int (xs (nI i + 2).toNatClampNeg)]) (rest := []) hx hb hml hown hts hKa hnw hA (zX4_classOf l) (by decide +kernel) ykX4_classOf (by decide +kernel) (by decide) h0C (eX4_classOf (P := fun ro σ2 => ∃ r a2, ro = some (.inl r) ∧ rCO (xs (nI i + 1).toNatClampNeg) (xs (nI i + 2).toNatClampNeg) a r a2 ∧ cSt a2 σ2) hC (fun r a2 σ2 h1 h2 => ⟨r, a2, rfl, h1, h2⟩)) rfl rfl hP hD hS hl.1 (Nat.le_of_ble_eq_true rfl) ⟨Nat.le_of_ble_eq_true rfl, Nat.le_of_ble_eq_true rfl⟩ dL_law_634 rfl (fun ro σC H locs hp hP hD hS => ?_)
  obtain ⟨r, a2, rfl, hrel, hC2⟩ := hp
  have hP := z_swapP hP
  have hD := z_swapD hD
  refine lv_aload_n hx hb dL_law_637 rfl (lv_at hl 2 rfl) ?_
  refine lv_aload_n hx hb dL_law_638 rfl (lv_at hl 0 rfl) ?_
  refine lv_iload_n hx hb dL_law_639 rfl (lv_at hl 3 rfl) ?_
  refine lv_iconst (v := 1) hx hb dL_law_640 (by decide) ?_
  refine lv_iadd hx hb dL_law_641 ?_
  refine va_sld hx hb hX hbl hbA hS i1 dL_law_642 ?_
  refine lv_aload_n hx hb dL_law_643 rfl (lv_at hl 0 rfl) ?_
  refine lv_iload_n hx hb dL_law_644 rfl (lv_at hl 3 rfl) ?_
  refine lv_iconst (v := 2) hx hb dL_law_645 (by decide) ?_
  refine lv_iadd hx hb dL_law_646 ?_
  refine va_sld hx hb hX hbl hbA hS i2 dL_law_647 ?_
  refine z_lcall 2 96 5 [.inl (xs (nI i + 1).toNatClampNeg), .inl (xs (nI i + 2).toNatClampNeg)] (own := RL) (α := β) (vs := [.int (xs (nI i + 1).toNatClampNeg), .int (xs (nI i + 2).toNatClampNeg)]) (rest := [.int r]) hx hb hml hown hts hKb hnw hA (zX5_classOf l) (by decide +kernel) ykX5_classOf (by decide +kernel) (by decide) h0M (eX5_classOf (P := fun ro σ2 => ro = some (.inl r) ∧ mSt a2 σ2) hM hrel (fun σ2 h1 => ⟨rfl, h1⟩)) rfl rfl hP hD hS hl.1 (Nat.le_of_ble_eq_true rfl) ⟨Nat.le_of_ble_eq_true rfl, Nat.le_of_ble_eq_true rfl⟩ dL_law_648 rfl (fun ro σM H locs hp hP hD hS => ?_)
  obtain ⟨rfl, hM2⟩ := hp
  have hP := z_swapP hP
  have hD := z_swapD hD
  exact lv_icmp_eq (tgt := 702) hx hb dL_law_651 (by decide) (fun _ => K a2 σC σM H locs ls hC2 hM2 hP hD hS hl) (fun c9 => absurd rfl c9)
set_option maxRecDepth 100000 in
set_option maxHeartbeats 4000000 in
theorem law_20 {p : Program} {l : Launch} {e : Env} {s : State} {m : MethodId} {below : List Frame} {meth : Method} {c : Code} {b L : Nat} {xs : Nat → Int32} {D : va_G} {α β : zA} {i : Nat} (X : LX p s m meth c b L xs D α β) (hi : i + 4 ≤ L) (K : LW p l e s m below meth c b D α β i 702) : LW p l e s m below meth c b D α β i 656 := by
  obtain ⟨hL, ⟨hx, hb, hr, hml, hown, hts0, hX, hbl, hlocks, hgv⟩, hKa, hKb, hnw⟩ := X
  have hts : ∀ w ∈ zAll, w.before #[Value.ref b] s = true := fun w hw => hts0 w (List.mem_filter.mp hw).1
  have hA : ∀ q : Nat, s.heap.size ≤ q → (fun q : Nat => s.heap.size ≤ q) q := fun _ h => h
  have hbA : ¬ (fun q : Nat => s.heap.size ≤ q) b := Nat.not_le.mpr hbl
  have i1 : vp_in (nI i + 1) L := by rw [nI_1]; exact vp_in_nI (by omega) (by omega)
  have i2 : vp_in (nI i + 2) L := by rw [show nI i + 2 = nI (i + 2) from nI_add i 2]; exact vp_in_nI (by omega) (by omega)
  have i3 : vp_in (nI i + 3) L := by rw [show nI i + 3 = nI (i + 3) from nI_add i 3]; exact vp_in_nI (by omega) (by omega)
  intro a σC σM H locs ls hC hM hP hD hS hl
  obtain ⟨fC, h0C⟩ := cSt_0 hC
  obtain ⟨fM, h0M⟩ := mSt_0 hM
  refine lv_aload_n hx hb dL_law_656 rfl (lv_at hl 1 rfl) ?_
  refine lv_aload_n hx hb dL_law_657 rfl (lv_at hl 0 rfl) ?_
  refine lv_iload_n hx hb dL_law_658 rfl (lv_at hl 3 rfl) ?_
  refine lv_iconst (v := 1) hx hb dL_law_659 (by decide) ?_
  refine lv_iadd hx hb dL_law_660 ?_
  refine va_sld hx hb hX hbl hbA hS i1 dL_law_661 ?_
  refine z_lcall 1 97 4 [.inl (xs (nI i + 1).toNatClampNeg)] (own := RL) (α := α) (vs := [.int (xs (nI i + 1).toNatClampNeg)]) (rest := []) hx hb hml hown hts hKa hnw hA (zX4_partner l) (by decide +kernel) ykX4_partner (by decide +kernel) (by decide) h0C (eX4_partner (P := fun ro σ2 => ∃ r a2, ro = some (.inl r) ∧ rPart (xs (nI i + 1).toNatClampNeg) a r a2 ∧ cSt a2 σ2) hC (fun r a2 σ2 h1 h2 => ⟨r, a2, rfl, h1, h2⟩)) rfl rfl hP hD hS hl.1 (Nat.le_of_ble_eq_true rfl) ⟨Nat.le_of_ble_eq_true rfl, Nat.le_of_ble_eq_true rfl⟩ dL_law_662 rfl (fun ro σC H locs hp hP hD hS => ?_)
  obtain ⟨r, a2, rfl, hrel, hC2⟩ := hp
  have hP := z_swapP hP
  have hD := z_swapD hD
  refine lv_aload_n hx hb dL_law_665 rfl (lv_at hl 2 rfl) ?_
  refine lv_aload_n hx hb dL_law_666 rfl (lv_at hl 0 rfl) ?_
  refine lv_iload_n hx hb dL_law_667 rfl (lv_at hl 3 rfl) ?_
  refine lv_iconst (v := 1) hx hb dL_law_668 (by decide) ?_
  refine lv_iadd hx hb dL_law_669 ?_
  refine va_sld hx hb hX hbl hbA hS i1 dL_law_670 ?_
  refine z_lcall 1 100 5 [.inl (xs (nI i + 1).toNatClampNeg)] (own := RL) (α := β) (vs := [.int (xs (nI i + 1).toNatClampNeg)]) (rest := [.int r]) hx hb hml hown hts hKb hnw hA (zX5_partner l) (by decide +kernel) ykX5_partner (by decide +kernel) (by decide) h0M (eX5_partner (P := fun ro σ2 => ro = some (.inl r) ∧ mSt a2 σ2) hM hrel (fun σ2 h1 => ⟨rfl, h1⟩)) rfl rfl hP hD hS hl.1 (Nat.le_of_ble_eq_true rfl) ⟨Nat.le_of_ble_eq_true rfl, Nat.le_of_ble_eq_true rfl⟩ dL_law_671 rfl (fun ro σM H locs hp hP hD hS => ?_)
  obtain ⟨rfl, hM2⟩ := hp
  have hP := z_swapP hP
  have hD := z_swapD hD
  exact lv_icmp_eq (tgt := 702) hx hb dL_law_674 (by decide) (fun _ => K a2 σC σM H locs ls hC2 hM2 hP hD hS hl) (fun c9 => absurd rfl c9)
set_option maxRecDepth 100000 in
set_option maxHeartbeats 4000000 in
theorem law_21 {p : Program} {l : Launch} {e : Env} {s : State} {m : MethodId} {below : List Frame} {meth : Method} {c : Code} {b L : Nat} {xs : Nat → Int32} {D : va_G} {α β : zA} {i : Nat} (X : LX p s m meth c b L xs D α β) (hi : i + 4 ≤ L) (K : LW p l e s m below meth c b D α β i 702) : LW p l e s m below meth c b D α β i 679 := by
  obtain ⟨hL, ⟨hx, hb, hr, hml, hown, hts0, hX, hbl, hlocks, hgv⟩, hKa, hKb, hnw⟩ := X
  have hts : ∀ w ∈ zAll, w.before #[Value.ref b] s = true := fun w hw => hts0 w (List.mem_filter.mp hw).1
  have hA : ∀ q : Nat, s.heap.size ≤ q → (fun q : Nat => s.heap.size ≤ q) q := fun _ h => h
  have hbA : ¬ (fun q : Nat => s.heap.size ≤ q) b := Nat.not_le.mpr hbl
  have i1 : vp_in (nI i + 1) L := by rw [nI_1]; exact vp_in_nI (by omega) (by omega)
  have i2 : vp_in (nI i + 2) L := by rw [show nI i + 2 = nI (i + 2) from nI_add i 2]; exact vp_in_nI (by omega) (by omega)
  have i3 : vp_in (nI i + 3) L := by rw [show nI i + 3 = nI (i + 3) from nI_add i 3]; exact vp_in_nI (by omega) (by omega)
  intro a σC σM H locs ls hC hM hP hD hS hl
  obtain ⟨fC, h0C⟩ := cSt_0 hC
  obtain ⟨fM, h0M⟩ := mSt_0 hM
  refine lv_aload_n hx hb dL_law_679 rfl (lv_at hl 1 rfl) ?_
  refine lv_aload_n hx hb dL_law_680 rfl (lv_at hl 0 rfl) ?_
  refine lv_iload_n hx hb dL_law_681 rfl (lv_at hl 3 rfl) ?_
  refine lv_iconst (v := 1) hx hb dL_law_682 (by decide) ?_
  refine lv_iadd hx hb dL_law_683 ?_
  refine va_sld hx hb hX hbl hbA hS i1 dL_law_684 ?_
  refine z_lcall 1 101 4 [.inl (xs (nI i + 1).toNatClampNeg)] (own := RL) (α := α) (vs := [.int (xs (nI i + 1).toNatClampNeg)]) (rest := []) hx hb hml hown hts hKa hnw hA (zX4_leastAcross l) (by decide +kernel) ykX4_leastAcross (by decide +kernel) (by decide) h0C (eX4_leastAcross (P := fun ro σ2 => ∃ r a2, ro = some (.inl r) ∧ rLA (xs (nI i + 1).toNatClampNeg) a r a2 ∧ cSt a2 σ2) hC (fun r a2 σ2 h1 h2 => ⟨r, a2, rfl, h1, h2⟩)) rfl rfl hP hD hS hl.1 (Nat.le_of_ble_eq_true rfl) ⟨Nat.le_of_ble_eq_true rfl, Nat.le_of_ble_eq_true rfl⟩ dL_law_685 rfl (fun ro σC H locs hp hP hD hS => ?_)
  obtain ⟨r, a2, rfl, hrel, hC2⟩ := hp
  have hP := z_swapP hP
  have hD := z_swapD hD
  refine lv_aload_n hx hb dL_law_688 rfl (lv_at hl 2 rfl) ?_
  refine lv_aload_n hx hb dL_law_689 rfl (lv_at hl 0 rfl) ?_
  refine lv_iload_n hx hb dL_law_690 rfl (lv_at hl 3 rfl) ?_
  refine lv_iconst (v := 1) hx hb dL_law_691 (by decide) ?_
  refine lv_iadd hx hb dL_law_692 ?_
  refine va_sld hx hb hX hbl hbA hS i1 dL_law_693 ?_
  refine z_lcall 1 104 5 [.inl (xs (nI i + 1).toNatClampNeg)] (own := RL) (α := β) (vs := [.int (xs (nI i + 1).toNatClampNeg)]) (rest := [.int r]) hx hb hml hown hts hKb hnw hA (zX5_leastAcross l) (by decide +kernel) ykX5_leastAcross (by decide +kernel) (by decide) h0M (eX5_leastAcross (P := fun ro σ2 => ro = some (.inl r) ∧ mSt a2 σ2) hM hrel (fun σ2 h1 => ⟨rfl, h1⟩)) rfl rfl hP hD hS hl.1 (Nat.le_of_ble_eq_true rfl) ⟨Nat.le_of_ble_eq_true rfl, Nat.le_of_ble_eq_true rfl⟩ dL_law_694 rfl (fun ro σM H locs hp hP hD hS => ?_)
  obtain ⟨rfl, hM2⟩ := hp
  have hP := z_swapP hP
  have hD := z_swapD hD
  exact lv_icmp_eq (tgt := 702) hx hb dL_law_697 (by decide) (fun _ => K a2 σC σM H locs ls hC2 hM2 hP hD hS hl) (fun c9 => absurd rfl c9)
