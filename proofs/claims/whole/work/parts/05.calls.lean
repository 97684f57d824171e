/-! CALLS, the copy of a row, the switch; and the whole walk. -/
theorem zAll_good {w : Cond} (h : w ∈ zAll) : goodWord w = true := (List.mem_filter.mp h).2
theorem zGood {cw : Cond} (h : cw ∈ zAll) : GoodIn zAll (cw :: zAll) := fun w hw => by
  rcases List.mem_cons.mp hw with rfl | hw
  · exact ⟨h, good_of_word (zAll_good h)⟩
  · exact ⟨hw, good_of_word (zAll_good hw)⟩
theorem zNw_warm {s U : State} (hW : s.WarmedH U.vm) (h : ∀ w ∈ zNW, va_Nw w s) : ∀ w ∈ zNW, va_Nw w U := by
  intro w hw
  have h1 := h w hw
  unfold zNW at hw
  simp only [List.mem_cons, List.not_mem_nil, or_false] at hw
  rcases hw with rfl | rfl | rfl | rfl | rfl | rfl <;> exact va_Nw.warmM hW h1
theorem zNw_same {u U : State} (hv : u.vm = U.vm) (h : ∀ w ∈ zNW, va_Nw w u) : ∀ w ∈ zNW, va_Nw w U := by
  intro w hw
  have h1 := h w hw
  unfold zNW at hw
  simp only [List.mem_cons, List.not_mem_nil, or_false] at hw
  rcases hw with rfl | rfl | rfl | rfl | rfl | rfl <;> exact va_Nw.same rfl hv h1
theorem zBlind {D : va_G} {α : zA} {sz : Nat} {σ : zS} {as : List Value} : FrameBlind (va_Pc as (fun U => U.heap.size = sz ∧ zU D α σ U)) := by
  intro a U g mk q
  obtain ⟨q0, q1, qP, qK, qD, qN⟩ := q
  exact ⟨q0, q1, qP, va_K.moved (u := U) (U := U.calling g mk a) (Vm.Alike.refl U.vm) qK, qD, zNw_same (u := U) (U := U.calling g mk a) rfl qN⟩
section ZCA
variable {p : Program} {l : Launch} {e : Env} {R : Room} {s : State} {m : MethodId} {args : Array Value} {below : List Frame} {meth : Method} {c : Code} {H : Heap} {locs : List Loc} {Q : State → Prop}
variable {pc : Nat} {ls : Array Slot} {rest st0 : List Value} {a : Array Value} {A0 A1 : Nat → Prop} {H0 : Heap} {free : Addr → Prop}
theorem z_call {D : va_G} {α : zA} {P : zP} (hr : va_Run p l e R s m args below meth c H locs 0 0 0 0 (F0 m pc ls st0) rest (zQc D α A1 P a) free) (hS : va_S A0 H0 H locs) (hA : ∀ q, q < H.size → A1 q → A0 q) (hf : ∀ q, free q → A0 q)
    (kk : ∀ (r : Option zV) (σ : zS) (H1 : Heap) (locs1 : List Loc), P r σ → va_P D vwCl (zc α σ) H1 → va_D A1 (zc α σ) → va_S A0 H0 H1 locs1 → W p l e R s m args below meth c H1 locs1 0 0 Q (F0 m (pc + 3) ls ((r.map (zv α)).toList ++ rest))) : W p l e R s m args below meth c H locs 0 0 Q (F0 m pc ls st0) := by
  intro T hT X
  obtain ⟨v, st₀, t, T', L, h0, X', hL, e1, e2, ⟨⟨r, σ, hv, hp, hP1, hD1⟩, hz, hk⟩, st⟩ := hr T hT X
  cases hv
  rw [h0] at hz hk
  obtain ⟨t2, a1, b1⟩ := kk r σ T'.heap (locs ++ L) hp (by rw [e1]; exact hP1) hD1
    ⟨Nat.le_trans hS.1 (by rw [e1]; exact hz), fun q h1 h2 => by rw [e1, hk q (Nat.lt_of_lt_of_le h1 hS.1) (fun z => h2 (hA q (Nat.lt_of_lt_of_le h1 hS.1) z))]; exact hS.2.1 q h1 h2, fun q hq => by
      rcases List.mem_append.mp hq with h | h
      · exact hS.2.2 q h
      · exact hf _ (hL q h)⟩ T' rfl X'
  exact ⟨t2, st t2 a1, b1⟩
end ZCA
theorem zRok_spec {R : Room} {mx : Nat} {rm : Room} (h : zRok R mx rm = true) : rm.cells = 0 ∧ rm.slots = 0 ∧ rm.frames + 1 ≤ R.frames ∧ 8 + (mx + 11) + rm.locals ≤ R.locals := by
  simp only [zRok, Bool.and_eq_true, decide_eq_true_eq] at h
  exact ⟨h.1, h.2.1, Nat.le_of_ble_eq_true h.2.2.1, Nat.le_of_ble_eq_true h.2.2.2⟩
theorem zYok_spec {y : MethodName} {cc : ByteArray} {mx : Nat} {ret : Option FieldType} {n : Nat} (h : zYok y cc mx ret n = true) : Cond.code y cc mx ret ∈ zAll ∧ Cond.initialized y.cls ∈ zAll ∧ y.cls ≠ "java/lang/invoke/MethodHandle" ∧ y.cls ≠ "java/lang/invoke/VarHandle" ∧ (parseMethodDescriptor y.desc).map (fun d => d.parameters.length) = some n := by
  simp only [zYok, Bool.and_eq_true, decide_eq_true_eq] at h
  exact ⟨zMem_spec h.1, zMem_spec h.2.1, h.2.2⟩
theorem zFree {D : va_G} {α : zA} {A : Nat → Prop} {σ : zS} {s : State} {H : Heap} {locs : List Loc} (hD : va_D A (zc α σ)) (hS : va_S A s.heap H locs) (hA : ∀ q, s.heap.size ≤ q → A q) : ∀ q, va_A (zc α σ) H.size q → A q := by
  rintro q (⟨k, e, h⟩ | h)
  · exact hD.2 k (q, e) h
  · exact hA q (Nat.le_trans hS.1 h)
section ZST
variable {p : Program} {l : Launch} {e : Env} {R : Room} {s : State} {m : MethodId} {args : Array Value} {below : List Frame} {meth : Method} {c : Code}
variable {cc : ByteArray} {own : String} {nL : Nat} {D : va_G} {α : zA} {A : Nat → Prop} {ret : Option FieldType} {M : zM} {P : zP}
theorem zs_invokevirtual (X : zX p s m args meth c cc own nL D α A ret) (O : zOK l own cc R ret M) {K : zH} (hK : ∀ σ pc lv st, K σ pc lv st → zZ p l e R s m args below meth c nL D α A P σ pc lv st) {pc nx tg : Nat} {iv : Int32} {σ : zS} {lv : List (Option zV)} {st : List zV} {n : Nat} (hi : zIok cc (pc, .invokevirtual n, nx, tg, iv) = true) (h : zex M P pc (.invokevirtual n) nx tg iv σ lv st K) : zZ p l e R s m args below meth c nL D α A P σ pc lv st := by
  obtain ⟨hx, hb, hml, hown, hts, hKK, hnw, hA, hlk, hret⟩ := X
  simp only [zIok, Bool.and_eq_true, decide_eq_true_eq] at hi
  obtain ⟨hd, hle, hn⟩ := hi
  obtain rfl : nx = pc + 3 := by omega
  rw [Nat.add_sub_cancel_left] at hd
  intro H locs ls hP hD hS hl
  dsimp only [zex] at h
  split at h
  · rename_i na ci C he
    split at h
    · rename_i k as hrev
      split at h
      · rename_i c' fs hs
        obtain ⟨hc1, h⟩ := zcond h
        simp only [Bool.and_eq_true] at hc1
        obtain ⟨hc1, hc2, hc3⟩ := hc1
        have e1 := Nat.eq_of_beq_eq_true hc1
        have e2 := Nat.le_of_ble_eq_true hc2
        have e3 := Nat.eq_of_beq_eq_true hc3
        obtain ⟨y, cy, mx, rt, rm, hM, hR, hY, hL⟩ := O.2.2.2.1 _ (zq_f_mem _ he)
        obtain ⟨hrc, hrs, hfr, hlo⟩ := zRok_spec hR
        obtain ⟨y1, y2, y3, y4, y5⟩ := zYok_spec hY
        obtain ⟨q0, hq0⟩ := zc_get (α := α) 0 hs (x := (α.1 k, .inr (c', fs.map (zv α)))) rfl
        obtain ⟨rr, hrr, -⟩ := hP q0 _ hq0
        have hrr2 : vwCl[ci]? = some rr := by rw [← e1]; exact hrr
        have hlt : ci < 100 := by
          have := (List.getElem?_eq_some_iff.mp hrr2).1
          have h6 : vwCl.length = 6 := rfl
          omega
        dsimp only at hL hM
        unfold zLk at hL
        rw [if_pos hlt, hrr2] at hL
        simp only [Bool.and_eq_true, decide_eq_true_eq] at hL
        obtain ⟨l1, l2, l3, l4⟩ := hL
        have l1 := zMem_spec l1
        have l2 := zMem_spec l2
        have l3 := zMem_spec l3
        have hstk : st = as.reverse ++ .inr (.inl k) :: st.drop (na + 1) := by
          have h1 := congrArg List.reverse hrev
          rw [List.reverse_reverse, List.reverse_cons] at h1
          have h2 := List.take_append_drop (na + 1) st
          rw [h1] at h2
          rw [List.append_assoc] at h2
          exact h2.symm
        have hF := zFree (D := D) hD hS hA
        refine z_call (va_runV (C := y.cls) (As := as.map (zv α)) (b := α.1 k) (rest := (st.drop (na + 1)).map (zv α)) ⟨hx, hb, hml, hown, hts⟩ (hM D α H.size σ _ _ h) (cwV na hts ?_ rfl hrc hrs ⟨rfl, y3, y4, y5⟩ ⟨hfr, hlo⟩) ⟨zBlind, ?_, fun U hU hW => ⟨rfl, by rw [hU], by rw [hU]; exact hP, va_K.moved hW.alike hKK, hD.weaken (fun _ _ _ _ => trivial), zNw_warm hW hnw⟩⟩ rfl (by rw [List.length_map]; exact e3) hl.2.1 ?_ (lv_room (by rw [zv_sum]; exact e2)) hd ⟨Nat.zero_le _, Nat.zero_le _⟩) hS (fun q _ h => hF q h) hF (fun r σ' H1 locs1 hp hP1 hD1 hS1 => ?_)
        · intro w hw
          unfold wsV at hw
          rcases List.mem_append.mp hw with hw | hw
          · simp only [List.mem_cons, List.not_mem_nil, or_false] at hw
            rcases hw with rfl | rfl | rfl | rfl
            · exact ⟨l1, good_of_word (zAll_good l1)⟩
            · exact ⟨l2, good_of_word (zAll_good l2)⟩
            · exact ⟨l3, good_of_word (zAll_good l3)⟩
            · exact ⟨y2, good_of_word (zAll_good y2)⟩
          · exact zGood y1 w hw
        · have := va_recv hKK hP hrr hq0
          rw [l4] at this
          exact this
        · show st.map (zv α) = _
          conv => lhs; rw [hstk]
          rw [List.map_append, List.map_cons, List.map_reverse]
          rfl
        · have h9 := hK _ _ _ _ hp H1 locs1 ls hP1 (hD1.weaken (fun _ q _ h => hF q.1 h)) hS1 hl
          have e9 : (r.toList ++ st.drop (na + 1)).map (zv α) = (r.map (zv α)).toList ++ (st.drop (na + 1)).map (zv α) := by
            cases r <;> simp
          rw [← e9]
          exact h9
      · exact h.elim
    · exact h.elim
  · exact h.elim
theorem zs_invokestatic (X : zX p s m args meth c cc own nL D α A ret) (O : zOK l own cc R ret M) {K : zH} (hK : ∀ σ pc lv st, K σ pc lv st → zZ p l e R s m args below meth c nL D α A P σ pc lv st) {pc nx tg : Nat} {iv : Int32} {σ : zS} {lv : List (Option zV)} {st : List zV} {n : Nat} (hi : zIok cc (pc, .invokestatic n, nx, tg, iv) = true) (h : zex M P pc (.invokestatic n) nx tg iv σ lv st K) : zZ p l e R s m args below meth c nL D α A P σ pc lv st := by
  obtain ⟨hx, hb, hml, hown, hts, hKK, hnw, hA, hlk, hret⟩ := X
  simp only [zIok, Bool.and_eq_true, decide_eq_true_eq] at hi
  obtain ⟨hd, hle, hn⟩ := hi
  obtain rfl : nx = pc + 3 := by omega
  rw [Nat.add_sub_cancel_left] at hd
  intro H locs ls hP hD hS hl
  dsimp only [zex] at h
  split at h
  · rename_i hcp
    split at h
    · rename_i ct dp kd jd sp ks js r
      split at h
      · rename_i g f hg hf
        obtain ⟨hc1, ⟨hdl, hsl, hsp, hdp, hct⟩, hfin⟩ := zcond h
        clear h
        have e2 := Nat.le_of_ble_eq_true hc1
        subst hsp; subst hdp; subst hct
        have hcy := O.2.2.2.2.1 _ (zq_f_mem _ hcp)
        simp only [zCpy, Bool.and_eq_true] at hcy
        obtain ⟨c1, c2, c3, c4, c5, c6⟩ := hcy
        have c1 := zMem_spec c1
        have c2 := zMem_spec c2
        have c3 := zMem_spec c3
        have c4 := zMem_spec c4
        obtain ⟨q0, hq0⟩ := zc_get (α := α) (js + 1) hf (zce_row hsl)
        obtain ⟨q1, hq1, hq2⟩ := zc_set (α := α) (jd + 1) hg (zce_row hdl) (zce_rowset (va_cpy (f js) (g jd) 0 0 12) hdl)
        refine va_copyi (sp := 0) (dp := 0) (n := 12) (ty := .int) hx hb (by rw [hml]; exact hl.2.1.symm) hown (hts _ c1) (hts _ c2) (hts _ c3) (hts _ c4) hKK hP hD hS q0 q1 0 0 hq0 hq1 rfl rfl rfl (by decide) (by decide) (by decide) (by decide) (by decide) (fun _ _ => rfl) (Nat.le_of_ble_eq_true c5) ?_ hd (fun H1 locs1 hP1 hD1 hS1 => ?_)
        · rw [zv_sum]
          have := Nat.le_of_ble_eq_true c6
          omega
        · have z0 : (0 : Int32).toNatClampNeg = 0 := by decide
          have z12 : (12 : Int32).toNatClampNeg = 12 := by decide
          rw [z0, z12, ← hq2] at hP1 hD1
          exact hK _ _ _ _ hfin H1 locs1 ls hP1 hD1 hS1 hl
      · exact h.elim
    · exact h.elim
  · rename_i hcp
    split at h
    · rename_i y x r
      obtain ⟨hc1, h⟩ := zcond h
      have e2 := Nat.le_of_ble_eq_true hc1
      have hcy := O.2.2.2.2.1 _ (zq_f_mem _ hcp)
      simp only [zCpy, Bool.and_eq_true] at hcy
      obtain ⟨c1, c2, c3, c4, c5, c6⟩ := hcy
      exact va_mmax hx hb (by rw [hml]; exact hl.2.1.symm) hown (hts _ (zMem_spec c1)) (hts _ (zMem_spec c2)) (hts _ (zMem_spec c3)) (hts _ (zMem_spec c4)) (Nat.le_of_ble_eq_true c5) (by rw [zv_sum]; have := Nat.le_of_ble_eq_true c6; omega) (Nat.zero_le _) (Nat.zero_le _) hd (hK _ _ _ _ h H locs ls hP hD hS hl)
    · exact h.elim
  · rename_i v hn0 hn1 hcp
    split at h
    · rename_i y x r
      obtain ⟨hc1, h⟩ := zcond h
      have e2 := Nat.le_of_ble_eq_true hc1
      have hcy := O.2.2.2.2.1 _ (zq_f_mem _ hcp)
      unfold zCpy at hcy
      split at hcy
      · rename_i e0; exact absurd e0 hn0
      · rename_i e0; exact absurd e0 hn1
      · simp only [Bool.and_eq_true] at hcy
        obtain ⟨c1, c2, c3, c4, c5, c6⟩ := hcy
        exact va_mmin hx hb (by rw [hml]; exact hl.2.1.symm) hown (hts _ (zMem_spec c1)) (hts _ (zMem_spec c2)) (hts _ (zMem_spec c3)) (hts _ (zMem_spec c4)) (Nat.le_of_ble_eq_true c5) (by rw [zv_sum]; have := Nat.le_of_ble_eq_true c6; omega) (Nat.zero_le _) (Nat.zero_le _) hd (hK _ _ _ _ h H locs ls hP hD hS hl)
      · cases hcy
    · exact h.elim
  · rename_i hcp
    split at h
    · rename_i na ci C he
      obtain ⟨hc1, h⟩ := zcond h
      simp only [Bool.and_eq_true] at hc1
      obtain ⟨hc1, hc2, hc3⟩ := hc1
      have e1 := Nat.le_of_ble_eq_true hc1
      have e2 := Nat.le_of_ble_eq_true hc2
      have e3 := Nat.eq_of_beq_eq_true hc3
      obtain ⟨y, cy, mx, rt, rm, hM, hR, hY, hL⟩ := O.2.2.2.1 _ (zq_f_mem _ he)
      obtain ⟨hrc, hrs, hfr, hlo⟩ := zRok_spec hR
      obtain ⟨y1, y2, y3, y4, y5⟩ := zYok_spec hY
      dsimp only at hL hM
      unfold zLk at hL
      rw [if_neg (by omega)] at hL
      have hF := zFree (D := D) hD hS hA
      have hpre : PreS s H (va_Pc ((st.take na).reverse.map (zv α)) (fun U => U.heap.size = H.size ∧ zU D α σ U)) ((st.take na).reverse.map (zv α)) := ⟨zBlind, fun U hU hW => ⟨rfl, by rw [hU], by rw [hU]; exact hP, va_K.moved hW.alike hKK, hD.weaken (fun _ _ _ _ => trivial), zNw_warm hW hnw⟩⟩
      have hstk : st.map (zv α) = ((st.take na).reverse.map (zv α)).reverse ++ (st.drop na).map (zv α) := by
        rw [← List.map_reverse, List.reverse_reverse, ← List.map_append, List.take_append_drop]
      have hlen : ((st.take na).reverse.map (zv α)).length = na := by rw [List.length_map, List.length_reverse]; exact e3
      have hgood : GoodIn zAll (Cond.code y cy mx rt :: zAll) := zGood y1
      have fin : ∀ (r : Option zV) (σ' : zS) (H1 : Heap) (locs1 : List Loc), K σ' (pc + 3) lv (r.toList ++ st.drop na) → va_P D vwCl (zc α σ') H1 → va_D (va_A (zc α σ) H.size) (zc α σ') → va_S A s.heap H1 locs1 → W p l e R s m args below meth c H1 locs1 0 0 (MQ below (zQc D α A P) args s 0 0 A) (F0 m (pc + 3) ls ((r.map (zv α)).toList ++ (st.drop na).map (zv α))) := by
        intro r σ' H1 locs1 hp hP1 hD1 hS1
        have h9 := hK _ _ _ _ hp H1 locs1 ls hP1 (hD1.weaken (fun _ q _ h => hF q.1 h)) hS1 hl
        have e9 : (r.toList ++ st.drop na).map (zv α) = (r.map (zv α)).toList ++ (st.drop na).map (zv α) := by
          cases r <;> simp
        rw [← e9]
        exact h9
      by_cases h100 : ci = 100
      · rw [if_pos h100] at hL
        simp only [Bool.and_eq_true, decide_eq_true_eq] at hL
        have hL := And.intro (zMem_spec hL.1) (zMem_spec hL.2)
        exact z_call (va_runS (As := (st.take na).reverse.map (zv α)) (rest := (st.drop na).map (zv α)) ⟨hx, hb, hml, hown, hts⟩ (hM D α H.size σ _ _ h) ⟨callB_of na hts hgood rfl hrc hrs (hts _ y2) (hts _ hL.1) ⟨y3, y4, y5⟩ ⟨hfr, hlo⟩, hts _ hL.2⟩ hpre rfl hlen hl.2.1 hstk (lv_room (by rw [zv_sum]; exact e2)) hd ⟨Nat.zero_le _, Nat.zero_le _⟩) hS (fun q _ h => hF q h) hF fin
      · rw [if_neg h100] at hL
        simp only [Bool.and_eq_true, decide_eq_true_eq] at hL
        have hL := And.intro hL.1 (zMem_spec hL.2)
        exact z_call (va_runSN (As := (st.take na).reverse.map (zv α)) (rest := (st.drop na).map (zv α)) ⟨hx, hb, hml, hown, hts⟩ (hM D α H.size σ _ _ h) ⟨va_cnB na hts hgood rfl hrc hrs (hnw _ hL.1) (hts _ y2) ⟨y3, y4, y5⟩ ⟨hfr, hlo⟩, hts _ hL.2, trivial⟩ hpre rfl hlen hl.2.1 hstk (lv_room (by rw [zv_sum]; exact e2)) hd ⟨Nat.zero_le _, Nat.zero_le _⟩) hS (fun q _ h => hF q h) hF fin
    · exact h.elim
theorem zs_tableswitch (X : zX p s m args meth c cc own nL D α A ret) {K : zH} (hK : ∀ σ pc lv st, K σ pc lv st → zZ p l e R s m args below meth c nL D α A P σ pc lv st) {pc nx tg : Nat} {iv : Int32} {σ : zS} {lv : List (Option zV)} {st : List zV} {d lo hh : Int} {offs : Array Int} (hi : zIok cc (pc, .tableswitch d lo hh offs, nx, tg, iv) = true) (h : zex M P pc (.tableswitch d lo hh offs) nx tg iv σ lv st K) : zZ p l e R s m args below meth c nL D α A P σ pc lv st := by
  obtain ⟨hx, hb, hml, hown, hts, hKK, hnw, hA, hlk, hret⟩ := X
  simp only [zIok, Bool.and_eq_true, decide_eq_true_eq] at hi
  obtain ⟨hd, hle, hn1, hn3, hn2⟩ := hi
  intro H locs ls hP hD hS hl
  dsimp only [zex] at h
  split at h
  · rename_i x r
    by_cases hr : x.toInt < lo ∨ hh < x.toInt
    · exact lv_tableOut hx hb hd hr (Int.toNat_of_nonneg hn1).symm (hK _ _ _ _ (h.1 hr) H locs ls hP hD hS hl)
    · have h1 : ¬ x.toInt < lo := fun q => hr (Or.inl q)
      have h2 : ¬ hh < x.toInt := fun q => hr (Or.inr q)
      have h3 : (x.toInt - lo).toNat < offs.size := by omega
      have h4 : offs[(x.toInt - lo).toNat]? = some offs[(x.toInt - lo).toNat] := Array.getElem?_eq_getElem h3
      have h5 := of_decide_eq_true (Array.all_eq_true.mp hn2 _ h3)
      exact lv_tableIn hx hb hd h1 h2 h4 (Int.toNat_of_nonneg h5).symm (hK _ _ _ _ (h.2 _ h1 h2 h4) H locs ls hP hD hS hl)
  · exact h.elim
theorem z_step (X : zX p s m args meth c cc own nL D α A ret) (O : zOK l own cc R ret M) {K : zH} (hK : ∀ σ pc lv st, K σ pc lv st → zZ p l e R s m args below meth c nL D α A P σ pc lv st) {σ : zS} {pc : Nat} {lv : List (Option zV)} {st : List zV} (h : zst M P σ pc lv st K) : zZ p l e R s m args below meth c nL D α A P σ pc lv st := by
  unfold zst at h
  split at h
  · rename_i i nx tg iv he
    have hi : zIok cc (pc, i, nx, tg, iv) = true := O.1 _ (zq_f_mem _ he)
    cases i
    case iload_n => exact zs_iload_n X O hK hi h
    case iload => exact zs_iload X O hK hi h
    case aload_n => exact zs_aload_n X O hK hi h
    case iconst => exact zs_iconst X O hK hi h
    case bipush => exact zs_bipush X O hK hi h
    case sipush => exact zs_sipush X O hK hi h
    case ldc => exact zs_ldc X O hK hi h
    case ldc_w => exact zs_ldc_w X O hK hi h
    case istore_n => exact zs_istore_n X O hK hi h
    case istore => exact zs_istore X O hK hi h
    case iinc => exact zs_iinc X O hK hi h
    case iadd => exact zs_iadd X O hK hi h
    case isub => exact zs_isub X O hK hi h
    case imul => exact zs_imul X O hK hi h
    case iand => exact zs_iand X O hK hi h
    case ior => exact zs_ior X O hK hi h
    case ixor => exact zs_ixor X O hK hi h
    case ishl => exact zs_ishl X O hK hi h
    case ishr => exact zs_ishr X O hK hi h
    case iushr => exact zs_iushr X O hK hi h
    case ineg => exact zs_ineg X O hK hi h
    case dup => exact zs_dup X O hK hi h
    case dup2 => exact zs_dup2 X O hK hi h
    case goto => exact zs_goto X O hK hi h
    case ifCond => exact zs_ifc X O hK hi h
    case if_icmp => exact zs_icmp X O hK hi h
    case getfield => exact zs_getfield X O hK hi h
    case putfield => exact zs_putfield X O hK hi h
    case iaload => exact zs_iaload X O hK hi h
    case iastore => exact zs_iastore X O hK hi h
    case aaload => exact zs_aaload X O hK hi h
    case arraylength => exact zs_arraylength X O hK hi h
    case ireturn => exact zs_ireturn X O hK hi h
    case return_ => exact zs_return X O hK hi h
    case tableswitch => exact zs_tableswitch X hK hi h
    case invokevirtual => exact zs_invokevirtual X O hK hi h
    case invokestatic => exact zs_invokestatic X O hK hi h
    all_goals exact (show False from h).elim
  · exact h.elim
theorem z_run (X : zX p s m args meth c cc own nL D α A ret) (O : zOK l own cc R ret M) {K : zH} (hK : ∀ σ pc lv st, K σ pc lv st → zZ p l e R s m args below meth c nL D α A P σ pc lv st) (S : List Nat) : ∀ (n : Nat) (σ : zS) (pc : Nat) (lv : List (Option zV)) (st : List zV), zwp M P S n σ pc lv st K → zZ p l e R s m args below meth c nL D α A P σ pc lv st
  | 0, _, _, _, _, h => h.elim
  | n + 1, σ, pc, lv, st, h => z_step X O (fun σ' pc' lv' st' hu => by
      cases e : zq_in pc' S with
      | true => rw [e] at hu; exact hK _ _ _ _ hu
      | false => rw [e] at hu; exact z_run X O hK S n _ _ _ _ hu) h
end ZST
theorem zlv_args (α : zA) : ∀ (as : List zV) (k n : Nat), zlv α k (as.map some ++ List.replicate n none) = lv_args k (as.map (zv α))
  | [], k, n => by
    induction n generalizing k with
    | zero => rfl
    | succ n ih =>
      show zlv α (k + 1) _ = _
      have := ih (k + 1)
      simpa [lv_args] using this
  | v :: r, k, n => by
    show (k, zv α v) :: zlv α (k + 1) (r.map some ++ List.replicate n none) = _
    rw [zlv_args α r (k + 1) n]
    show _ = (k, zv α v) :: lv_args (if (zv α v).category = 2 then k + 2 else k + 1) (r.map (zv α))
    rw [if_neg (by rw [zv_cat]; decide)]
theorem lg_sl_zv (α : zA) (as : List zV) : (lg_sl (as.map (zv α))).length = as.length := by
  induction as with
  | nil => rfl
  | cons a l ih =>
    show ((if (zv α a).category = 2 then _ else _) ++ lg_sl (l.map (zv α))).length = _
    rw [if_neg (by rw [zv_cat]; decide), List.length_append, ih]
    simp [Nat.add_comm]
/-- A CONTRACT out of a walk of the generator -/
theorem zMet_of {l : Launch} {y : MethodName} {cc : ByteArray} {mx : Nat} {ret : Option FieldType} {rm : Room} {C : zK} {M : zM} (hy : plainName y.cls = true) (hrm : rm.cells = 0 ∧ rm.slots = 0) (O : zOK l y.cls cc rm ret M)
    (h : ∀ (as : List zV) (σ : zS) (P : zP), C as σ P → as.length ≤ mx ∧ ∀ Z : zH, zcl M P Z → Z σ 0 (as.map some ++ List.replicate (mx - as.length) none) []) : zMet l y cc mx ret rm C := by
  intro D α sz σ as P hC
  obtain ⟨hlen, hZ⟩ := h as σ P hC
  refine Met.ofW (cc := cc) (maxL := mx) (ret := ret) hy rfl ?_
  intro p e s m args below meth c s₁ B hml hv
  obtain ⟨rfl, hsz, hP, hK, hD0, hN⟩ := hv
  have hts := atoms_spec (ws := .code y cc mx ret :: zAll) B.pre
  have hown : s.vm.findClass y.cls = some m.cls := findClass_of_methodNamed B.named
  subst hsz
  have hD := hD0.self (sz := s.heap.size)
  generalize hAe : va_A (zc α σ) s.heap.size = A at hD ⊢
  have hA : ∀ q : Nat, s.heap.size ≤ q → A q := fun q h => by rw [← hAe]; exact Or.inr h
  have hS : va_S A s.heap s.heap [] := va_S.rf
  have hl := lv_entry (as.map (zv α)) (n := mx) (by rw [lg_sl_zv]; exact hlen)
  rw [lg_entry_eq]
  generalize (lg_sl (as.map (zv α)) ++ List.replicate (mx - (lg_sl (as.map (zv α))).length) Slot.unset).toArray = ls at hl ⊢
  have X : zX p s m (as.map (zv α)).toArray meth c cc y.cls mx D α A ret := ⟨B.exec, B.bytes, hml, hown, fun w hw => hts w (List.mem_cons_of_mem _ hw), hK, hN, hA, B.notSynchronized, B.returns⟩
  have h9 := hZ (zZ p l e rm s m (as.map (zv α)).toArray below meth c mx D α A P) (fun S n σ pc lv st ht => z_run X O (fun _ _ _ _ q => q) S n σ pc lv st ht)
  exact h9 s.heap [] ls hP hD hS ⟨by simp; omega, by rw [zlv_args]; exact hl⟩
