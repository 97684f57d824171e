/-! THE CONSTRUCTORS: what each makes, with the cells in the order of making. -/
theorem newa_cell (n : Nat) (c : ClassId) : vp_cell c (n, .inl (fun _ => 0)) = arrV c n (fun _ => defaultValue .int) := by
  rw [vp_cell_i]
  rfl
/-- the links of constructors of nest mates -/
def zNI : List Cond := [.methodLinkNest RX1 11 yX3_init RX4, .methodLinkNest RX4 20 yX0_init RX4]
theorem zNI_in : ∀ w ∈ zNI, w ∈ lw_tbl := by decide +kernel
theorem zNI_warm {s U : State} (hW : s.WarmedH U.vm) (h : ∀ w ∈ zNI, va_Nw w s) : ∀ w ∈ zNI, va_Nw w U := by
  intro w hw
  have h1 := h w hw
  unfold zNI at hw
  simp only [List.mem_cons, List.not_mem_nil, or_false] at hw
  rcases hw with rfl | rfl <;> exact va_Nw.warmM hW h1
theorem zNI_same {u U : State} (hv : u.vm = U.vm) (h : ∀ w ∈ zNI, va_Nw w u) : ∀ w ∈ zNI, va_Nw w U := by
  intro w hw
  have h1 := h w hw
  unfold zNI at hw
  simp only [List.mem_cons, List.not_mem_nil, or_false] at hw
  rcases hw with rfl | rfl <;> exact va_Nw.same rfl hv h1
def zN (D : va_G) (cI cM : ClassId) (x : Nat × va_E) (sz : Nat) (U : State) : Prop := U.heap.size = sz ∧ va_P D vwCl [x] U.heap ∧ va_K D vwCl [(cI, .int), (cM, .array .int)] U ∧ va_D (fun _ => True) [x] ∧ va_AOA .int U ∧ ∀ w ∈ zNI, va_Nw w U
def zNB (D : va_G) (x : Nat × va_E) (sz : Nat) (B : va_W → Prop) (_ : Unit) (t : State) : Prop := ∃ ws, B ws ∧ va_P D vwCl ws t.heap ∧ va_D (va_A [x] sz) ws
def zNMet (l : Launch) (y : MethodName) (cc : ByteArray) (mx : Nat) (rm : Room) (D : va_G) (cI cM : ClassId) (as : List Value) (x : Nat × va_E) (B : va_W → Prop) (sz mc ms : Nat) : Prop := Met l y (.code y cc mx none :: zAll) rm (va_Pc as (zN D cI cM x sz)) (va_Qv (fun _ : Unit => True) (zNB D x sz B) (va_A [x] sz)) mc ms (va_A [x] sz)
theorem z_last {wr : va_W} {x : Nat × va_E} : (wr ++ [x])[wr.length]? = some x := by simp
theorem z_joinN {A0 : Nat → Prop} {D : va_G} {wr w1 : va_W} {x : Nat × va_E} {H H1 : Heap} (hP : va_P D vwCl (wr ++ [x]) H) (hD : va_D A0 (wr ++ [x])) (hk : ∀ q : Nat, q < H.size → ¬ va_A [x] H.size q → H1[q]? = H[q]?) (hF : ∀ q, va_A [x] H.size q → A0 q) (hP1 : va_P D vwCl w1 H1) (hD1 : va_D (va_A [x] H.size) w1) : va_P D vwCl (wr ++ w1) H1 ∧ va_D A0 (wr ++ w1) := by
  have up : ∀ (k : Nat) (q : Nat × va_E), wr[k]? = some q → k < wr.length ∧ (wr ++ [x])[k]? = some q := by
    intro k q hq
    have hl := (List.getElem?_eq_some_iff.mp hq).1
    exact ⟨hl, by rw [List.getElem?_append_left hl]; exact hq⟩
  have apart : ∀ (k : Nat) (q : Nat × va_E), wr[k]? = some q → q.1 < H.size ∧ ¬ va_A [x] H.size q.1 := by
    intro k q hq
    obtain ⟨h1, h2⟩ := up k q hq
    have hl := (hP k q h2).lt
    refine ⟨hl, fun h => ?_⟩
    rcases h with ⟨k2, e, h⟩ | h
    · have h0 : k2 < 1 := (List.getElem?_eq_some_iff.mp h).1
      rw [show k2 = 0 by omega] at h
      have hx : x = (q.1, e) := Option.some.inj h
      have := hD.1 k wr.length q x h2 z_last (by rw [hx])
      omega
    · omega
  refine ⟨va_P.app (fun k q hq => ?_) hP1, va_D.app ⟨fun i j p q hp hq e => hD.1 i j p q (up i p hp).2 (up j q hq).2 e, fun k q hq => hD.2 k q (up k q hq).2⟩ (hD1.weaken (fun k q _ h => hF q.1 h)) (fun i j x9 y9 hx hy hxy => ?_)⟩
  · obtain ⟨g1, g2⟩ := apart k q hq
    exact (hP k q (up k q hq).2).kept (hk q.1 g1 g2)
  · exact (apart i x9 hx).2 (by rw [hxy]; exact hD1.2 j y9 hy)
section ZCO
variable {p : Program} {l : Launch} {e : Env} {R : Room} {s : State} {m : MethodId} {args : Array Value} {below : List Frame} {meth : Method} {c : Code} {H : Heap} {locs : List Loc} {cells slots : Nat} {Q : State → Prop}
variable {cc : ByteArray} {pc : Nat} {ls : Array Slot} {rest st0 : List Value} {D : va_G} {A : Nat → Prop} {ws wr : va_W} {H0 : Heap} {cI cM : ClassId} {x : Nat × va_E} {B : va_W → Prop} {mc ms : Nat} {a : Array Value}
theorem z_newa (hexec : p.tables.exec = Jvm.exec) (hb : c.code = cc) (harr : (Cond.arrayClass .int).before args s = true) (hK : va_K D vwCl [(cI, .int), (cM, .array .int)] s) (hP : va_P D vwCl ws H) (hD : va_D A ws) (hS : va_S A H0 H locs) (hA : ∀ q, H0.size ≤ q → A q)
    {n : Int32} {N : Nat} (hn : ¬ n < 0) (hN : n.toNatClampNeg = N) (hbytes : N * 4 ≤ 536870912) (hcells : cells + 1 ≤ R.cells) (hslots : slots + N ≤ R.slots) (hdg : decode cc pc = .ok (.newarray .int, 2))
    (kk : ∀ (q : Nat) (H1 : Heap), va_P D vwCl (ws ++ [(q, .inl (cI, N, .inl (fun _ => 0)))]) H1 → va_D A (ws ++ [(q, .inl (cI, N, .inl (fun _ => 0)))]) → va_S A H0 H1 locs → W p l e R s m args below meth c H1 locs (cells + 1) (slots + N) Q (F0 m (pc + 2) ls (.ref q :: rest))) : W p l e R s m args below meth c H locs cells slots Q (F0 m pc ls (.int n :: rest)) := by
  refine va_newa (atype := .int) (ty := .int) (a0 := (N, .inl (fun _ => 0))) hexec hb harr rfl hK hP hD hS hA (newa_cell N) hn hN hbytes hcells hslots hdg (fun q cA H1 hK1 hP1 hD1 hS1 => ?_)
  have fI : s.vm.findClass ("[" ++ (FieldType.int).toString) = some cI := (hK.2 0 _ rfl).2
  have eA : cA = cI := by
    have h2 : s.vm.findClass ("[" ++ (FieldType.int).toString) = some cA := (hK1.2 2 _ rfl).2
    exact Option.some.inj (h2.symm.trans fI)
  subst eA
  exact kk q H1 hP1 hD1 hS1
theorem z_preN {as : List Value} (hK : va_K D vwCl [(cI, .int), (cM, .array .int)] s) (hP : va_P D vwCl (wr ++ [x]) H) (hD : va_D A (wr ++ [x])) (hO : va_AOA .int s) (hnw : ∀ w ∈ zNI, va_Nw w s) : PreS s H (va_Pc as (zN D cI cM x H.size)) as := by
  have hPx : va_P D vwCl [x] H := fun k q hq => by
    have h0 : k < 1 := (List.getElem?_eq_some_iff.mp hq).1
    rw [show k = 0 by omega] at hq
    cases hq
    exact hP _ _ z_last
  have hDx : va_D (fun _ => True) [x] := ⟨fun i j p q hp hq _ => by
    have h0 : i < 1 := (List.getElem?_eq_some_iff.mp hp).1
    have h1 : j < 1 := (List.getElem?_eq_some_iff.mp hq).1
    omega, fun _ _ _ => trivial⟩
  refine ⟨fun a U g mk q => ?_, fun U hU hW => ⟨rfl, by rw [hU], by rw [hU]; exact hPx, va_K.moved hW.alike hK, hDx, va_AOA.moved hW.alike hO, zNI_warm hW hnw⟩⟩
  obtain ⟨q0, q1, qP, qK, qD, qO, qN⟩ := q
  exact ⟨q0, q1, qP, va_K.moved (u := U) (U := U.calling g mk a) (Vm.Alike.refl U.vm) qK, qD, va_AOA.moved (u := U) (U := U.calling g mk a) (Vm.Alike.refl U.vm) qO, zNI_same (u := U) (U := U.calling g mk a) rfl qN⟩
theorem z_ctor (hr : va_Run p l e R s m args below meth c H locs cells slots mc ms (F0 m pc ls st0) rest (va_Qv (fun _ : Unit => True) (zNB D x H.size B) (va_A [x] H.size) a) (va_A [x] H.size)) (hP : va_P D vwCl (wr ++ [x]) H) (hD : va_D A (wr ++ [x])) (hS : va_S A H0 H locs) (hA : ∀ q, H0.size ≤ q → A q)
    (kk : ∀ (w1 : va_W) (H1 : Heap) (locs1 : List Loc), B w1 → va_P D vwCl (wr ++ w1) H1 → va_D A (wr ++ w1) → va_S A H0 H1 locs1 → W p l e R s m args below meth c H1 locs1 (cells + mc) (slots + ms) Q (F0 m (pc + 3) ls rest)) : W p l e R s m args below meth c H locs cells slots Q (F0 m pc ls st0) := by
  have hF : ∀ q, va_A [x] H.size q → A q := by
    rintro q (⟨k, e9, h⟩ | h)
    · have h0 : k < 1 := (List.getElem?_eq_some_iff.mp h).1
      rw [show k = 0 by omega] at h
      have hx : x = (q, e9) := Option.some.inj h
      have := hD.2 _ _ (z_last (wr := wr) (x := x))
      rw [hx] at this
      exact this
    · exact hA q (Nat.le_trans hS.1 h)
  refine va_callv hr hS (fun q _ h => hF q h) hF (fun u t H1 locs1 ht _ _ hB hz1 hk1 hS1 => ?_)
  obtain ⟨w1, hB, hP1, hD1⟩ := hB
  rw [ht] at hP1
  obtain ⟨hP2, hD2⟩ := z_joinN hP hD hk1 hF hP1 hD1
  exact kk w1 H1 locs1 hB hP2 hD2 hS1
end ZCO
theorem dX0_init_0 : decode cX0_init 0 = .ok (.aload_n 0, 1) := by decide +kernel
theorem dX0_init_1 : decode cX0_init 1 = .ok (.invokespecial 3, 3) := by decide +kernel
theorem dX0_init_4 : decode cX0_init 4 = .ok (.aload_n 0, 1) := by decide +kernel
theorem dX0_init_5 : decode cX0_init 5 = .ok (.bipush 40, 2) := by decide +kernel
theorem dX0_init_7 : decode cX0_init 7 = .ok (.newarray .int, 2) := by decide +kernel
theorem dX0_init_9 : decode cX0_init 9 = .ok (.putfield 9, 3) := by decide +kernel
theorem dX0_init_12 : decode cX0_init 12 = .ok (.aload_n 0, 1) := by decide +kernel
theorem dX0_init_13 : decode cX0_init 13 = .ok (.bipush 40, 2) := by decide +kernel
theorem dX0_init_15 : decode cX0_init 15 = .ok (.newarray .int, 2) := by decide +kernel
theorem dX0_init_17 : decode cX0_init 17 = .ok (.putfield 15, 3) := by decide +kernel
theorem dX0_init_20 : decode cX0_init 20 = .ok (.aload_n 0, 1) := by decide +kernel
theorem dX0_init_21 : decode cX0_init 21 = .ok (.bipush 40, 2) := by decide +kernel
theorem dX0_init_23 : decode cX0_init 23 = .ok (.newarray .int, 2) := by decide +kernel
theorem dX0_init_25 : decode cX0_init 25 = .ok (.putfield 18, 3) := by decide +kernel
theorem dX0_init_28 : decode cX0_init 28 = .ok (.aload_n 0, 1) := by decide +kernel
theorem dX0_init_29 : decode cX0_init 29 = .ok (.iconst 0, 1) := by decide +kernel
theorem dX0_init_30 : decode cX0_init 30 = .ok (.putfield 21, 3) := by decide +kernel
theorem dX0_init_33 : decode cX0_init 33 = .ok (.aload_n 0, 1) := by decide +kernel
theorem dX0_init_34 : decode cX0_init 34 = .ok (.iconst 0, 1) := by decide +kernel
theorem dX0_init_35 : decode cX0_init 35 = .ok (.putfield 25, 3) := by decide +kernel
theorem dX0_init_38 : decode cX0_init 38 = .ok (.return_, 1) := by decide +kernel
theorem dX2_init_0 : decode cX2_init 0 = .ok (.aload_n 0, 1) := by decide +kernel
theorem dX2_init_1 : decode cX2_init 1 = .ok (.invokespecial 3, 3) := by decide +kernel
theorem dX2_init_4 : decode cX2_init 4 = .ok (.aload_n 0, 1) := by decide +kernel
theorem dX2_init_5 : decode cX2_init 5 = .ok (.bipush 12, 2) := by decide +kernel
theorem dX2_init_7 : decode cX2_init 7 = .ok (.bipush 12, 2) := by decide +kernel
theorem dX2_init_9 : decode cX2_init 9 = .ok (.multianewarray 9 2, 4) := by decide +kernel
theorem dX2_init_13 : decode cX2_init 13 = .ok (.putfield 11, 3) := by decide +kernel
theorem dX2_init_16 : decode cX2_init 16 = .ok (.aload_n 0, 1) := by decide +kernel
theorem dX2_init_17 : decode cX2_init 17 = .ok (.iload_n 1, 1) := by decide +kernel
theorem dX2_init_18 : decode cX2_init 18 = .ok (.putfield 16, 3) := by decide +kernel
theorem dX2_init_21 : decode cX2_init 21 = .ok (.return_, 1) := by decide +kernel
theorem dX3_init_0 : decode cX3_init 0 = .ok (.aload_n 0, 1) := by decide +kernel
theorem dX3_init_1 : decode cX3_init 1 = .ok (.invokespecial 3, 3) := by decide +kernel
theorem dX3_init_4 : decode cX3_init 4 = .ok (.aload_n 0, 1) := by decide +kernel
theorem dX3_init_5 : decode cX3_init 5 = .ok (.bipush 12, 2) := by decide +kernel
theorem dX3_init_7 : decode cX3_init 7 = .ok (.bipush 12, 2) := by decide +kernel
theorem dX3_init_9 : decode cX3_init 9 = .ok (.multianewarray 9 2, 4) := by decide +kernel
theorem dX3_init_13 : decode cX3_init 13 = .ok (.putfield 11, 3) := by decide +kernel
theorem dX3_init_16 : decode cX3_init 16 = .ok (.aload_n 0, 1) := by decide +kernel
theorem dX3_init_17 : decode cX3_init 17 = .ok (.bipush 12, 2) := by decide +kernel
theorem dX3_init_19 : decode cX3_init 19 = .ok (.newarray .int, 2) := by decide +kernel
theorem dX3_init_21 : decode cX3_init 21 = .ok (.putfield 16, 3) := by decide +kernel
theorem dX3_init_24 : decode cX3_init 24 = .ok (.return_, 1) := by decide +kernel
theorem dX1_init_0 : decode cX1_init 0 = .ok (.aload_n 0, 1) := by decide +kernel
theorem dX1_init_1 : decode cX1_init 1 = .ok (.invokespecial 3, 3) := by decide +kernel
theorem dX1_init_4 : decode cX1_init 4 = .ok (.aload_n 0, 1) := by decide +kernel
theorem dX1_init_5 : decode cX1_init 5 = .ok (.new 9, 3) := by decide +kernel
theorem dX1_init_8 : decode cX1_init 8 = .ok (.dup, 1) := by decide +kernel
theorem dX1_init_9 : decode cX1_init 9 = .ok (.invokespecial 11, 3) := by decide +kernel
theorem dX1_init_12 : decode cX1_init 12 = .ok (.putfield 12, 3) := by decide +kernel
theorem dX1_init_15 : decode cX1_init 15 = .ok (.aload_n 0, 1) := by decide +kernel
theorem dX1_init_16 : decode cX1_init 16 = .ok (.bipush 12, 2) := by decide +kernel
theorem dX1_init_18 : decode cX1_init 18 = .ok (.bipush 12, 2) := by decide +kernel
theorem dX1_init_20 : decode cX1_init 20 = .ok (.multianewarray 18 2, 4) := by decide +kernel
theorem dX1_init_24 : decode cX1_init 24 = .ok (.putfield 20, 3) := by decide +kernel
theorem dX1_init_27 : decode cX1_init 27 = .ok (.aload_n 0, 1) := by decide +kernel
theorem dX1_init_28 : decode cX1_init 28 = .ok (.bipush 12, 2) := by decide +kernel
theorem dX1_init_30 : decode cX1_init 30 = .ok (.newarray .int, 2) := by decide +kernel
theorem dX1_init_32 : decode cX1_init 32 = .ok (.putfield 23, 3) := by decide +kernel
theorem dX1_init_35 : decode cX1_init 35 = .ok (.aload_n 0, 1) := by decide +kernel
theorem dX1_init_36 : decode cX1_init 36 = .ok (.bipush 12, 2) := by decide +kernel
theorem dX1_init_38 : decode cX1_init 38 = .ok (.newarray .int, 2) := by decide +kernel
theorem dX1_init_40 : decode cX1_init 40 = .ok (.putfield 27, 3) := by decide +kernel
theorem dX1_init_43 : decode cX1_init 43 = .ok (.aload_n 0, 1) := by decide +kernel
theorem dX1_init_44 : decode cX1_init 44 = .ok (.bipush 12, 2) := by decide +kernel
theorem dX1_init_46 : decode cX1_init 46 = .ok (.newarray .int, 2) := by decide +kernel
theorem dX1_init_48 : decode cX1_init 48 = .ok (.putfield 30, 3) := by decide +kernel
theorem dX1_init_51 : decode cX1_init 51 = .ok (.aload_n 0, 1) := by decide +kernel
theorem dX1_init_52 : decode cX1_init 52 = .ok (.iconst 0, 1) := by decide +kernel
theorem dX1_init_53 : decode cX1_init 53 = .ok (.putfield 33, 3) := by decide +kernel
theorem dX1_init_56 : decode cX1_init 56 = .ok (.aload_n 0, 1) := by decide +kernel
theorem dX1_init_57 : decode cX1_init 57 = .ok (.aload_n 1, 1) := by decide +kernel
theorem dX1_init_58 : decode cX1_init 58 = .ok (.putfield 37, 3) := by decide +kernel
theorem dX1_init_61 : decode cX1_init 61 = .ok (.return_, 1) := by decide +kernel
theorem dX4_init_0 : decode cX4_init 0 = .ok (.aload_n 0, 1) := by decide +kernel
theorem dX4_init_1 : decode cX4_init 1 = .ok (.invokespecial 3, 3) := by decide +kernel
theorem dX4_init_4 : decode cX4_init 4 = .ok (.aload_n 0, 1) := by decide +kernel
theorem dX4_init_5 : decode cX4_init 5 = .ok (.new 9, 3) := by decide +kernel
theorem dX4_init_8 : decode cX4_init 8 = .ok (.dup, 1) := by decide +kernel
theorem dX4_init_9 : decode cX4_init 9 = .ok (.iconst 4, 1) := by decide +kernel
theorem dX4_init_10 : decode cX4_init 10 = .ok (.invokespecial 11, 3) := by decide +kernel
theorem dX4_init_13 : decode cX4_init 13 = .ok (.putfield 14, 3) := by decide +kernel
theorem dX4_init_16 : decode cX4_init 16 = .ok (.aload_n 0, 1) := by decide +kernel
theorem dX4_init_17 : decode cX4_init 17 = .ok (.new 18, 3) := by decide +kernel
theorem dX4_init_20 : decode cX4_init 20 = .ok (.dup, 1) := by decide +kernel
theorem dX4_init_21 : decode cX4_init 21 = .ok (.invokespecial 20, 3) := by decide +kernel
theorem dX4_init_24 : decode cX4_init 24 = .ok (.putfield 21, 3) := by decide +kernel
theorem dX4_init_27 : decode cX4_init 27 = .ok (.aload_n 0, 1) := by decide +kernel
theorem dX4_init_28 : decode cX4_init 28 = .ok (.new 25, 3) := by decide +kernel
theorem dX4_init_31 : decode cX4_init 31 = .ok (.dup, 1) := by decide +kernel
theorem dX4_init_32 : decode cX4_init 32 = .ok (.aload_n 0, 1) := by decide +kernel
theorem dX4_init_33 : decode cX4_init 33 = .ok (.getfield 14, 3) := by decide +kernel
theorem dX4_init_36 : decode cX4_init 36 = .ok (.invokespecial 27, 3) := by decide +kernel
theorem dX4_init_39 : decode cX4_init 39 = .ok (.putfield 30, 3) := by decide +kernel
theorem dX4_init_42 : decode cX4_init 42 = .ok (.aload_n 0, 1) := by decide +kernel
theorem dX4_init_43 : decode cX4_init 43 = .ok (.iconst 0, 1) := by decide +kernel
theorem dX4_init_44 : decode cX4_init 44 = .ok (.putfield 34, 3) := by decide +kernel
theorem dX4_init_47 : decode cX4_init 47 = .ok (.return_, 1) := by decide +kernel
theorem dX5_init_0 : decode cX5_init 0 = .ok (.aload_n 0, 1) := by decide +kernel
theorem dX5_init_1 : decode cX5_init 1 = .ok (.invokespecial 1, 3) := by decide +kernel
theorem dX5_init_4 : decode cX5_init 4 = .ok (.aload_n 0, 1) := by decide +kernel
theorem dX5_init_5 : decode cX5_init 5 = .ok (.sipush 144, 3) := by decide +kernel
theorem dX5_init_8 : decode cX5_init 8 = .ok (.newarray .int, 2) := by decide +kernel
theorem dX5_init_10 : decode cX5_init 10 = .ok (.putfield 7, 3) := by decide +kernel
theorem dX5_init_13 : decode cX5_init 13 = .ok (.aload_n 0, 1) := by decide +kernel
theorem dX5_init_14 : decode cX5_init 14 = .ok (.bipush 40, 2) := by decide +kernel
theorem dX5_init_16 : decode cX5_init 16 = .ok (.newarray .int, 2) := by decide +kernel
theorem dX5_init_18 : decode cX5_init 18 = .ok (.putfield 13, 3) := by decide +kernel
theorem dX5_init_21 : decode cX5_init 21 = .ok (.aload_n 0, 1) := by decide +kernel
theorem dX5_init_22 : decode cX5_init 22 = .ok (.bipush 40, 2) := by decide +kernel
theorem dX5_init_24 : decode cX5_init 24 = .ok (.newarray .int, 2) := by decide +kernel
theorem dX5_init_26 : decode cX5_init 26 = .ok (.putfield 16, 3) := by decide +kernel
theorem dX5_init_29 : decode cX5_init 29 = .ok (.aload_n 0, 1) := by decide +kernel
theorem dX5_init_30 : decode cX5_init 30 = .ok (.bipush 40, 2) := by decide +kernel
theorem dX5_init_32 : decode cX5_init 32 = .ok (.newarray .int, 2) := by decide +kernel
theorem dX5_init_34 : decode cX5_init 34 = .ok (.putfield 19, 3) := by decide +kernel
theorem dX5_init_37 : decode cX5_init 37 = .ok (.aload_n 0, 1) := by decide +kernel
theorem dX5_init_38 : decode cX5_init 38 = .ok (.bipush 12, 2) := by decide +kernel
theorem dX5_init_40 : decode cX5_init 40 = .ok (.newarray .int, 2) := by decide +kernel
theorem dX5_init_42 : decode cX5_init 42 = .ok (.putfield 22, 3) := by decide +kernel
theorem dX5_init_45 : decode cX5_init 45 = .ok (.aload_n 0, 1) := by decide +kernel
theorem dX5_init_46 : decode cX5_init 46 = .ok (.bipush 12, 2) := by decide +kernel
theorem dX5_init_48 : decode cX5_init 48 = .ok (.newarray .int, 2) := by decide +kernel
theorem dX5_init_50 : decode cX5_init 50 = .ok (.putfield 25, 3) := by decide +kernel
theorem dX5_init_53 : decode cX5_init 53 = .ok (.aload_n 0, 1) := by decide +kernel
theorem dX5_init_54 : decode cX5_init 54 = .ok (.sipush 144, 3) := by decide +kernel
theorem dX5_init_57 : decode cX5_init 57 = .ok (.newarray .int, 2) := by decide +kernel
theorem dX5_init_59 : decode cX5_init 59 = .ok (.putfield 28, 3) := by decide +kernel
theorem dX5_init_62 : decode cX5_init 62 = .ok (.aload_n 0, 1) := by decide +kernel
theorem dX5_init_63 : decode cX5_init 63 = .ok (.sipush 4096, 3) := by decide +kernel
theorem dX5_init_66 : decode cX5_init 66 = .ok (.newarray .int, 2) := by decide +kernel
theorem dX5_init_68 : decode cX5_init 68 = .ok (.putfield 31, 3) := by decide +kernel
theorem dX5_init_71 : decode cX5_init 71 = .ok (.aload_n 0, 1) := by decide +kernel
theorem dX5_init_72 : decode cX5_init 72 = .ok (.iconst 4, 1) := by decide +kernel
theorem dX5_init_73 : decode cX5_init 73 = .ok (.putfield 34, 3) := by decide +kernel
theorem dX5_init_76 : decode cX5_init 76 = .ok (.return_, 1) := by decide +kernel
def BX2 (cI cM : ClassId) (h0 : Nat) (n9 : Int32) : va_W → Prop := fun ws => ∃ q1 : Nat, ∃ r1 : Nat → Nat, ws = (h0, .inr (2, [.ref q1, .int n9])) :: (zmat cI cM q1 r1 (fun _ _ => 0))
set_option maxRecDepth 100000 in
set_option maxHeartbeats 4000000 in
theorem nX2 (l : Launch) (D : va_G) (cI cM : ClassId) (h0 sz : Nat) (n9 : Int32) : zNMet l yX2_init cX2_init 2 { frames := 1, cells := 13, slots := 156, locals := 12 } D cI cM [.ref h0, .int n9] (h0, .inr (2, [.null, .int 0])) (BX2 cI cM h0 n9) sz 13 156 := by
  refine Met.ofW (cc := cX2_init) (maxL := 2) (ret := none) (by decide) rfl ?_
  intro p e s m args below meth c s₁ B hml hv
  obtain ⟨rfl, hsz, hP, hK, hD0, hO, hnw⟩ := hv
  have hx := B.exec
  have hb := B.bytes
  have hr := B.returns
  have hts0 := atoms_spec (ws := .code yX2_init cX2_init 2 none :: zAll) B.pre
  have hts : ∀ w ∈ zAll, w.before _ s = true := fun w hw => hts0 w (List.mem_cons_of_mem _ hw)
  have hown : s.vm.findClass RX2 = some m.cls := findClass_of_methodNamed B.named
  have hlocks := B.notSynchronized
  have hin0 : meth.name = "<init>" := (name_of_methodNamed B.named B.method).1
  subst hsz
  have hD := hD0.self (sz := s.heap.size)
  generalize hAe : va_A [(h0, .inr (2, [.null, .int 0]))] s.heap.size = A at hD ⊢
  have hA : ∀ q : Nat, s.heap.size ≤ q → A q := fun q h => by rw [← hAe]; exact Or.inr h
  have hS : va_S A s.heap s.heap [] := va_S.rf
  have hl := lv_entry ([.ref h0, .int n9]) (n := 2) (Nat.le_of_ble_eq_true rfl)
  rw [lg_entry_eq]
  generalize (lg_sl ([.ref h0, .int n9]) ++ List.replicate (2 - (lg_sl ([.ref h0, .int n9])).length) Slot.unset).toArray = ls at hl ⊢
  have hl : lv_has ls 2 [(0, .ref h0), (1, .int n9)] := hl
  refine lv_aload_n hx hb dX2_init_0 rfl (lv_at hl 0 rfl) ?_
  refine W.objInit hx hb hown (idx := 3) (hts _ (zMem_spec (by decide +kernel))) (hts _ (zMem_spec (by decide +kernel))) (hts _ (zMem_spec (by decide +kernel))) rfl (by rw [hml]; exact hl.1) rfl dX2_init_1 (Nat.le_of_ble_eq_true rfl) (Nat.le_of_ble_eq_true rfl) ?_
  refine W.eq (g2 := F0 m 4 ls []) rfl ?_
  refine lv_aload_n hx hb dX2_init_4 rfl (lv_at hl 0 rfl) ?_
  refine lv_bipush (v := 12) hx hb dX2_init_5 (by decide) ?_
  refine lv_bipush (v := 12) hx hb dX2_init_7 (by decide) ?_
  refine z_mna (own := RX2) (cI := cI) (cM := cM) hx hb hown (hts _ (zMem_spec (by decide +kernel))) hO (hts _ (zMem_spec (by decide +kernel))) hK hP hD hS hA (Nat.le_of_ble_eq_true rfl) (Nat.le_of_ble_eq_true rfl) dX2_init_9 (fun q1 r1 H hP hD hS => ?_)
  refine W.widen (k := 13) (n := 156) (Nat.le_of_ble_eq_true rfl) (Nat.le_of_ble_eq_true rfl) ?_
  have hP : va_P D vwCl ((h0, .inr (2, [.null, .int 0])) :: (zmat cI cM q1 r1 (fun _ _ => 0))) H := hP
  have hD : va_D A ((h0, .inr (2, [.null, .int 0])) :: (zmat cI cM q1 r1 (fun _ _ => 0))) := hD
  refine va_putF (D := D) (ci := 2) (v := .ref q1) (ty := .array (.array .int)) (C := RX2) (T := TX2) (N := 2) (ref := (TX2 0).1) hx hb hts (zcls 2 _ rfl).1 tyX2 tyX2_ok nmX2 hown hK hP hD hS 0 rfl rfl 0 (by decide) (hts _ (zMem_spec (by decide +kernel))) (fun _ h9 => h9) rfl hin0 rfl (by decide +kernel) rfl rfl (Nat.le_of_ble_eq_true rfl) dX2_init_13 (fun H locs hP hD hS => ?_)
  have hP : va_P D vwCl ((h0, .inr (2, [.ref q1, .int 0])) :: (zmat cI cM q1 r1 (fun _ _ => 0))) H := hP
  have hD : va_D A ((h0, .inr (2, [.ref q1, .int 0])) :: (zmat cI cM q1 r1 (fun _ _ => 0))) := hD
  refine lv_aload_n hx hb dX2_init_16 rfl (lv_at hl 0 rfl) ?_
  refine lv_iload_n hx hb dX2_init_17 rfl (lv_at hl 1 rfl) ?_
  refine va_put (D := D) (ci := 2) (v := .int n9) (ty := .int) (C := RX2) (T := TX2) (N := 2) (ref := (TX2 1).1) hx hb hts (zcls 2 _ rfl).1 tyX2 tyX2_ok nmX2 hown hK hP hD hS 0 rfl rfl 1 (by decide) (hts _ (zMem_spec (by decide +kernel))) (fun _ h9 => h9) rfl (by decide +kernel) rfl rfl (Nat.le_of_ble_eq_true rfl) dX2_init_18 (fun H locs hP hD hS => ?_)
  have hP : va_P D vwCl ((h0, .inr (2, [.ref q1, .int n9])) :: (zmat cI cM q1 r1 (fun _ _ => 0))) H := hP
  have hD : va_D A ((h0, .inr (2, [.ref q1, .int n9])) :: (zmat cI cM q1 r1 (fun _ _ => 0))) := hD
  exact W.vret hx hb hr (fun t ht hW => ⟨⟨(), rfl, trivial, _, ⟨q1, r1, rfl⟩, by rw [ht]; exact hP, by rw [hAe]; exact hD⟩, hS.F ht⟩) hS.2.2 dX2_init_21
def BX0 (cI cM : ClassId) (h0 : Nat) : va_W → Prop := fun ws => ∃ q1 : Nat, ∃ q2 : Nat, ∃ q3 : Nat, ws = (h0, .inr (0, [.ref q1, .ref q2, .ref q3, .int 0, .int 0])) :: ([(q1, .inl (cI, 40, .inl (fun _ => 0)))] ++ [(q2, .inl (cI, 40, .inl (fun _ => 0)))] ++ [(q3, .inl (cI, 40, .inl (fun _ => 0)))])
set_option maxRecDepth 100000 in
set_option maxHeartbeats 4000000 in
theorem nX0 (l : Launch) (D : va_G) (cI cM : ClassId) (h0 sz : Nat) : zNMet l yX0_init cX0_init 1 { frames := 1, cells := 3, slots := 120, locals := 12 } D cI cM [.ref h0] (h0, .inr (0, [.null, .null, .null, .int 0, .int 0])) (BX0 cI cM h0) sz 3 120 := by
  refine Met.ofW (cc := cX0_init) (maxL := 1) (ret := none) (by decide) rfl ?_
  intro p e s m args below meth c s₁ B hml hv
  obtain ⟨rfl, hsz, hP, hK, hD0, hO, hnw⟩ := hv
  have hx := B.exec
  have hb := B.bytes
  have hr := B.returns
  have hts0 := atoms_spec (ws := .code yX0_init cX0_init 1 none :: zAll) B.pre
  have hts : ∀ w ∈ zAll, w.before _ s = true := fun w hw => hts0 w (List.mem_cons_of_mem _ hw)
  have hown : s.vm.findClass RX0 = some m.cls := findClass_of_methodNamed B.named
  have hlocks := B.notSynchronized
  have hin0 : meth.name = "<init>" := (name_of_methodNamed B.named B.method).1
  subst hsz
  have hD := hD0.self (sz := s.heap.size)
  generalize hAe : va_A [(h0, .inr (0, [.null, .null, .null, .int 0, .int 0]))] s.heap.size = A at hD ⊢
  have hA : ∀ q : Nat, s.heap.size ≤ q → A q := fun q h => by rw [← hAe]; exact Or.inr h
  have hS : va_S A s.heap s.heap [] := va_S.rf
  have hl := lv_entry ([.ref h0]) (n := 1) (Nat.le_of_ble_eq_true rfl)
  rw [lg_entry_eq]
  generalize (lg_sl ([.ref h0]) ++ List.replicate (1 - (lg_sl ([.ref h0])).length) Slot.unset).toArray = ls at hl ⊢
  have hl : lv_has ls 1 [(0, .ref h0)] := hl
  refine lv_aload_n hx hb dX0_init_0 rfl (lv_at hl 0 rfl) ?_
  refine W.objInit hx hb hown (idx := 3) (hts _ (zMem_spec (by decide +kernel))) (hts _ (zMem_spec (by decide +kernel))) (hts _ (zMem_spec (by decide +kernel))) rfl (by rw [hml]; exact hl.1) rfl dX0_init_1 (Nat.le_of_ble_eq_true rfl) (Nat.le_of_ble_eq_true rfl) ?_
  refine W.eq (g2 := F0 m 4 ls []) rfl ?_
  refine lv_aload_n hx hb dX0_init_4 rfl (lv_at hl 0 rfl) ?_
  refine lv_bipush (v := 40) hx hb dX0_init_5 (by decide) ?_
  refine z_newa (N := 40) hx hb (hts _ (zMem_spec (by decide +kernel))) hK hP hD hS hA (by decide) (by decide) (by decide) (Nat.le_of_ble_eq_true rfl) (Nat.le_of_ble_eq_true rfl) dX0_init_7 (fun q1 H hP hD hS => ?_)
  refine W.widen (k := 1) (n := 40) (Nat.le_of_ble_eq_true rfl) (Nat.le_of_ble_eq_true rfl) ?_
  have hP : va_P D vwCl ((h0, .inr (0, [.null, .null, .null, .int 0, .int 0])) :: ([(q1, .inl (cI, 40, .inl (fun _ => 0)))])) H := hP
  have hD : va_D A ((h0, .inr (0, [.null, .null, .null, .int 0, .int 0])) :: ([(q1, .inl (cI, 40, .inl (fun _ => 0)))])) := hD
  refine va_putF (D := D) (ci := 0) (v := .ref q1) (ty := .array .int) (C := RX0) (T := TX0) (N := 5) (ref := (TX0 0).1) hx hb hts (zcls 0 _ rfl).1 tyX0 tyX0_ok nmX0 hown hK hP hD hS 0 rfl rfl 0 (by decide) (hts _ (zMem_spec (by decide +kernel))) (fun _ h9 => h9) rfl hin0 rfl (by decide +kernel) rfl rfl (Nat.le_of_ble_eq_true rfl) dX0_init_9 (fun H locs hP hD hS => ?_)
  have hP : va_P D vwCl ((h0, .inr (0, [.ref q1, .null, .null, .int 0, .int 0])) :: ([(q1, .inl (cI, 40, .inl (fun _ => 0)))])) H := hP
  have hD : va_D A ((h0, .inr (0, [.ref q1, .null, .null, .int 0, .int 0])) :: ([(q1, .inl (cI, 40, .inl (fun _ => 0)))])) := hD
  refine lv_aload_n hx hb dX0_init_12 rfl (lv_at hl 0 rfl) ?_
  refine lv_bipush (v := 40) hx hb dX0_init_13 (by decide) ?_
  refine z_newa (N := 40) hx hb (hts _ (zMem_spec (by decide +kernel))) hK hP hD hS hA (by decide) (by decide) (by decide) (Nat.le_of_ble_eq_true rfl) (Nat.le_of_ble_eq_true rfl) dX0_init_15 (fun q2 H hP hD hS => ?_)
  refine W.widen (k := 2) (n := 80) (Nat.le_of_ble_eq_true rfl) (Nat.le_of_ble_eq_true rfl) ?_
  have hP : va_P D vwCl ((h0, .inr (0, [.ref q1, .null, .null, .int 0, .int 0])) :: ([(q1, .inl (cI, 40, .inl (fun _ => 0)))] ++ [(q2, .inl (cI, 40, .inl (fun _ => 0)))])) H := hP
  have hD : va_D A ((h0, .inr (0, [.ref q1, .null, .null, .int 0, .int 0])) :: ([(q1, .inl (cI, 40, .inl (fun _ => 0)))] ++ [(q2, .inl (cI, 40, .inl (fun _ => 0)))])) := hD
  refine va_putF (D := D) (ci := 0) (v := .ref q2) (ty := .array .int) (C := RX0) (T := TX0) (N := 5) (ref := (TX0 1).1) hx hb hts (zcls 0 _ rfl).1 tyX0 tyX0_ok nmX0 hown hK hP hD hS 0 rfl rfl 1 (by decide) (hts _ (zMem_spec (by decide +kernel))) (fun _ h9 => h9) rfl hin0 rfl (by decide +kernel) rfl rfl (Nat.le_of_ble_eq_true rfl) dX0_init_17 (fun H locs hP hD hS => ?_)
  have hP : va_P D vwCl ((h0, .inr (0, [.ref q1, .ref q2, .null, .int 0, .int 0])) :: ([(q1, .inl (cI, 40, .inl (fun _ => 0)))] ++ [(q2, .inl (cI, 40, .inl (fun _ => 0)))])) H := hP
  have hD : va_D A ((h0, .inr (0, [.ref q1, .ref q2, .null, .int 0, .int 0])) :: ([(q1, .inl (cI, 40, .inl (fun _ => 0)))] ++ [(q2, .inl (cI, 40, .inl (fun _ => 0)))])) := hD
  refine lv_aload_n hx hb dX0_init_20 rfl (lv_at hl 0 rfl) ?_
  refine lv_bipush (v := 40) hx hb dX0_init_21 (by decide) ?_
  refine z_newa (N := 40) hx hb (hts _ (zMem_spec (by decide +kernel))) hK hP hD hS hA (by decide) (by decide) (by decide) (Nat.le_of_ble_eq_true rfl) (Nat.le_of_ble_eq_true rfl) dX0_init_23 (fun q3 H hP hD hS => ?_)
  refine W.widen (k := 3) (n := 120) (Nat.le_of_ble_eq_true rfl) (Nat.le_of_ble_eq_true rfl) ?_
  have hP : va_P D vwCl ((h0, .inr (0, [.ref q1, .ref q2, .null, .int 0, .int 0])) :: ([(q1, .inl (cI, 40, .inl (fun _ => 0)))] ++ [(q2, .inl (cI, 40, .inl (fun _ => 0)))] ++ [(q3, .inl (cI, 40, .inl (fun _ => 0)))])) H := hP
  have hD : va_D A ((h0, .inr (0, [.ref q1, .ref q2, .null, .int 0, .int 0])) :: ([(q1, .inl (cI, 40, .inl (fun _ => 0)))] ++ [(q2, .inl (cI, 40, .inl (fun _ => 0)))] ++ [(q3, .inl (cI, 40, .inl (fun _ => 0)))])) := hD
  refine va_putF (D := D) (ci := 0) (v := .ref q3) (ty := .array .int) (C := RX0) (T := TX0) (N := 5) (ref := (TX0 2).1) hx hb hts (zcls 0 _ rfl).1 tyX0 tyX0_ok nmX0 hown hK hP hD hS 0 rfl rfl 2 (by decide) (hts _ (zMem_spec (by decide +kernel))) (fun _ h9 => h9) rfl hin0 rfl (by decide +kernel) rfl rfl (Nat.le_of_ble_eq_true rfl) dX0_init_25 (fun H locs hP hD hS => ?_)
  have hP : va_P D vwCl ((h0, .inr (0, [.ref q1, .ref q2, .ref q3, .int 0, .int 0])) :: ([(q1, .inl (cI, 40, .inl (fun _ => 0)))] ++ [(q2, .inl (cI, 40, .inl (fun _ => 0)))] ++ [(q3, .inl (cI, 40, .inl (fun _ => 0)))])) H := hP
  have hD : va_D A ((h0, .inr (0, [.ref q1, .ref q2, .ref q3, .int 0, .int 0])) :: ([(q1, .inl (cI, 40, .inl (fun _ => 0)))] ++ [(q2, .inl (cI, 40, .inl (fun _ => 0)))] ++ [(q3, .inl (cI, 40, .inl (fun _ => 0)))])) := hD
  refine lv_aload_n hx hb dX0_init_28 rfl (lv_at hl 0 rfl) ?_
  refine lv_iconst (v := 0) hx hb dX0_init_29 (by decide) ?_
  refine va_put (D := D) (ci := 0) (v := .int 0) (ty := .int) (C := RX0) (T := TX0) (N := 5) (ref := (TX0 3).1) hx hb hts (zcls 0 _ rfl).1 tyX0 tyX0_ok nmX0 hown hK hP hD hS 0 rfl rfl 3 (by decide) (hts _ (zMem_spec (by decide +kernel))) (fun _ h9 => h9) rfl (by decide +kernel) rfl rfl (Nat.le_of_ble_eq_true rfl) dX0_init_30 (fun H locs hP hD hS => ?_)
  have hP : va_P D vwCl ((h0, .inr (0, [.ref q1, .ref q2, .ref q3, .int 0, .int 0])) :: ([(q1, .inl (cI, 40, .inl (fun _ => 0)))] ++ [(q2, .inl (cI, 40, .inl (fun _ => 0)))] ++ [(q3, .inl (cI, 40, .inl (fun _ => 0)))])) H := hP
  have hD : va_D A ((h0, .inr (0, [.ref q1, .ref q2, .ref q3, .int 0, .int 0])) :: ([(q1, .inl (cI, 40, .inl (fun _ => 0)))] ++ [(q2, .inl (cI, 40, .inl (fun _ => 0)))] ++ [(q3, .inl (cI, 40, .inl (fun _ => 0)))])) := hD
  refine lv_aload_n hx hb dX0_init_33 rfl (lv_at hl 0 rfl) ?_
  refine lv_iconst (v := 0) hx hb dX0_init_34 (by decide) ?_
  refine va_put (D := D) (ci := 0) (v := .int 0) (ty := .int) (C := RX0) (T := TX0) (N := 5) (ref := (TX0 4).1) hx hb hts (zcls 0 _ rfl).1 tyX0 tyX0_ok nmX0 hown hK hP hD hS 0 rfl rfl 4 (by decide) (hts _ (zMem_spec (by decide +kernel))) (fun _ h9 => h9) rfl (by decide +kernel) rfl rfl (Nat.le_of_ble_eq_true rfl) dX0_init_35 (fun H locs hP hD hS => ?_)
  have hP : va_P D vwCl ((h0, .inr (0, [.ref q1, .ref q2, .ref q3, .int 0, .int 0])) :: ([(q1, .inl (cI, 40, .inl (fun _ => 0)))] ++ [(q2, .inl (cI, 40, .inl (fun _ => 0)))] ++ [(q3, .inl (cI, 40, .inl (fun _ => 0)))])) H := hP
  have hD : va_D A ((h0, .inr (0, [.ref q1, .ref q2, .ref q3, .int 0, .int 0])) :: ([(q1, .inl (cI, 40, .inl (fun _ => 0)))] ++ [(q2, .inl (cI, 40, .inl (fun _ => 0)))] ++ [(q3, .inl (cI, 40, .inl (fun _ => 0)))])) := hD
  exact W.vret hx hb hr (fun t ht hW => ⟨⟨(), rfl, trivial, _, ⟨q1, q2, q3, rfl⟩, by rw [ht]; exact hP, by rw [hAe]; exact hD⟩, hS.F ht⟩) hS.2.2 dX0_init_38
def BX3 (cI cM : ClassId) (h0 : Nat) : va_W → Prop := fun ws => ∃ q1 : Nat, ∃ r1 : Nat → Nat, ∃ q2 : Nat, ws = (h0, .inr (3, [.ref q1, .ref q2, .int 0, .int 0])) :: (zmat cI cM q1 r1 (fun _ _ => 0) ++ [(q2, .inl (cI, 12, .inl (fun _ => 0)))])
set_option maxRecDepth 100000 in
set_option maxHeartbeats 4000000 in
theorem nX3 (l : Launch) (D : va_G) (cI cM : ClassId) (h0 sz : Nat) : zNMet l yX3_init cX3_init 1 { frames := 1, cells := 14, slots := 168, locals := 12 } D cI cM [.ref h0] (h0, .inr (3, [.null, .null, .int 0, .int 0])) (BX3 cI cM h0) sz 14 168 := by
  refine Met.ofW (cc := cX3_init) (maxL := 1) (ret := none) (by decide) rfl ?_
  intro p e s m args below meth c s₁ B hml hv
  obtain ⟨rfl, hsz, hP, hK, hD0, hO, hnw⟩ := hv
  have hx := B.exec
  have hb := B.bytes
  have hr := B.returns
  have hts0 := atoms_spec (ws := .code yX3_init cX3_init 1 none :: zAll) B.pre
  have hts : ∀ w ∈ zAll, w.before _ s = true := fun w hw => hts0 w (List.mem_cons_of_mem _ hw)
  have hown : s.vm.findClass RX3 = some m.cls := findClass_of_methodNamed B.named
  have hlocks := B.notSynchronized
  have hin0 : meth.name = "<init>" := (name_of_methodNamed B.named B.method).1
  subst hsz
  have hD := hD0.self (sz := s.heap.size)
  generalize hAe : va_A [(h0, .inr (3, [.null, .null, .int 0, .int 0]))] s.heap.size = A at hD ⊢
  have hA : ∀ q : Nat, s.heap.size ≤ q → A q := fun q h => by rw [← hAe]; exact Or.inr h
  have hS : va_S A s.heap s.heap [] := va_S.rf
  have hl := lv_entry ([.ref h0]) (n := 1) (Nat.le_of_ble_eq_true rfl)
  rw [lg_entry_eq]
  generalize (lg_sl ([.ref h0]) ++ List.replicate (1 - (lg_sl ([.ref h0])).length) Slot.unset).toArray = ls at hl ⊢
  have hl : lv_has ls 1 [(0, .ref h0)] := hl
  refine lv_aload_n hx hb dX3_init_0 rfl (lv_at hl 0 rfl) ?_
  refine W.objInit hx hb hown (idx := 3) (hts _ (zMem_spec (by decide +kernel))) (hts _ (zMem_spec (by decide +kernel))) (hts _ (zMem_spec (by decide +kernel))) rfl (by rw [hml]; exact hl.1) rfl dX3_init_1 (Nat.le_of_ble_eq_true rfl) (Nat.le_of_ble_eq_true rfl) ?_
  refine W.eq (g2 := F0 m 4 ls []) rfl ?_
  refine lv_aload_n hx hb dX3_init_4 rfl (lv_at hl 0 rfl) ?_
  refine lv_bipush (v := 12) hx hb dX3_init_5 (by decide) ?_
  refine lv_bipush (v := 12) hx hb dX3_init_7 (by decide) ?_
  refine z_mna (own := RX3) (cI := cI) (cM := cM) hx hb hown (hts _ (zMem_spec (by decide +kernel))) hO (hts _ (zMem_spec (by decide +kernel))) hK hP hD hS hA (Nat.le_of_ble_eq_true rfl) (Nat.le_of_ble_eq_true rfl) dX3_init_9 (fun q1 r1 H hP hD hS => ?_)
  refine W.widen (k := 13) (n := 156) (Nat.le_of_ble_eq_true rfl) (Nat.le_of_ble_eq_true rfl) ?_
  have hP : va_P D vwCl ((h0, .inr (3, [.null, .null, .int 0, .int 0])) :: (zmat cI cM q1 r1 (fun _ _ => 0))) H := hP
  have hD : va_D A ((h0, .inr (3, [.null, .null, .int 0, .int 0])) :: (zmat cI cM q1 r1 (fun _ _ => 0))) := hD
  refine va_putF (D := D) (ci := 3) (v := .ref q1) (ty := .array (.array .int)) (C := RX3) (T := TX3) (N := 4) (ref := (TX3 0).1) hx hb hts (zcls 3 _ rfl).1 tyX3 tyX3_ok nmX3 hown hK hP hD hS 0 rfl rfl 0 (by decide) (hts _ (zMem_spec (by decide +kernel))) (fun _ h9 => h9) rfl hin0 rfl (by decide +kernel) rfl rfl (Nat.le_of_ble_eq_true rfl) dX3_init_13 (fun H locs hP hD hS => ?_)
  have hP : va_P D vwCl ((h0, .inr (3, [.ref q1, .null, .int 0, .int 0])) :: (zmat cI cM q1 r1 (fun _ _ => 0))) H := hP
  have hD : va_D A ((h0, .inr (3, [.ref q1, .null, .int 0, .int 0])) :: (zmat cI cM q1 r1 (fun _ _ => 0))) := hD
  refine lv_aload_n hx hb dX3_init_16 rfl (lv_at hl 0 rfl) ?_
  refine lv_bipush (v := 12) hx hb dX3_init_17 (by decide) ?_
  refine z_newa (N := 12) hx hb (hts _ (zMem_spec (by decide +kernel))) hK hP hD hS hA (by decide) (by decide) (by decide) (Nat.le_of_ble_eq_true rfl) (Nat.le_of_ble_eq_true rfl) dX3_init_19 (fun q2 H hP hD hS => ?_)
  refine W.widen (k := 14) (n := 168) (Nat.le_of_ble_eq_true rfl) (Nat.le_of_ble_eq_true rfl) ?_
  have hP : va_P D vwCl ((h0, .inr (3, [.ref q1, .null, .int 0, .int 0])) :: (zmat cI cM q1 r1 (fun _ _ => 0) ++ [(q2, .inl (cI, 12, .inl (fun _ => 0)))])) H := hP
  have hD : va_D A ((h0, .inr (3, [.ref q1, .null, .int 0, .int 0])) :: (zmat cI cM q1 r1 (fun _ _ => 0) ++ [(q2, .inl (cI, 12, .inl (fun _ => 0)))])) := hD
  refine va_putF (D := D) (ci := 3) (v := .ref q2) (ty := .array .int) (C := RX3) (T := TX3) (N := 4) (ref := (TX3 1).1) hx hb hts (zcls 3 _ rfl).1 tyX3 tyX3_ok nmX3 hown hK hP hD hS 0 rfl rfl 1 (by decide) (hts _ (zMem_spec (by decide +kernel))) (fun _ h9 => h9) rfl hin0 rfl (by decide +kernel) rfl rfl (Nat.le_of_ble_eq_true rfl) dX3_init_21 (fun H locs hP hD hS => ?_)
  have hP : va_P D vwCl ((h0, .inr (3, [.ref q1, .ref q2, .int 0, .int 0])) :: (zmat cI cM q1 r1 (fun _ _ => 0) ++ [(q2, .inl (cI, 12, .inl (fun _ => 0)))])) H := hP
  have hD : va_D A ((h0, .inr (3, [.ref q1, .ref q2, .int 0, .int 0])) :: (zmat cI cM q1 r1 (fun _ _ => 0) ++ [(q2, .inl (cI, 12, .inl (fun _ => 0)))])) := hD
  exact W.vret hx hb hr (fun t ht hW => ⟨⟨(), rfl, trivial, _, ⟨q1, r1, q2, rfl⟩, by rw [ht]; exact hP, by rw [hAe]; exact hD⟩, hS.F ht⟩) hS.2.2 dX3_init_24
def BX1 (cI cM : ClassId) (h0 : Nat) (g9 : Nat) : va_W → Prop := fun ws => ∃ q1 : Nat, ∃ q2 : Nat, ∃ r2 : Nat → Nat, ∃ q3 : Nat, ∃ q4 : Nat, ∃ r4 : Nat → Nat, ∃ q5 : Nat, ∃ q6 : Nat, ∃ q7 : Nat, ws = (h0, .inr (1, [.ref g9, .ref q1, .ref q4, .ref q5, .ref q6, .ref q7, .int 0])) :: ([(q1, .inr (3, [.ref q2, .ref q3, .int 0, .int 0]))] ++ zmat cI cM q2 r2 (fun _ _ => 0) ++ [(q3, .inl (cI, 12, .inl (fun _ => 0)))] ++ zmat cI cM q4 r4 (fun _ _ => 0) ++ [(q5, .inl (cI, 12, .inl (fun _ => 0)))] ++ [(q6, .inl (cI, 12, .inl (fun _ => 0)))] ++ [(q7, .inl (cI, 12, .inl (fun _ => 0)))])
set_option maxRecDepth 100000 in
set_option maxHeartbeats 4000000 in
theorem nX1 (l : Launch) (D : va_G) (cI cM : ClassId) (h0 sz : Nat) (g9 : Nat) : zNMet l yX1_init cX1_init 2 { frames := 2, cells := 31, slots := 364, locals := 32 } D cI cM [.ref h0, .ref g9] (h0, .inr (1, [.null, .null, .null, .null, .null, .null, .int 0])) (BX1 cI cM h0 g9) sz 31 364 := by
  refine Met.ofW (cc := cX1_init) (maxL := 2) (ret := none) (by decide) rfl ?_
  intro p e s m args below meth c s₁ B hml hv
  obtain ⟨rfl, hsz, hP, hK, hD0, hO, hnw⟩ := hv
  have hx := B.exec
  have hb := B.bytes
  have hr := B.returns
  have hts0 := atoms_spec (ws := .code yX1_init cX1_init 2 none :: zAll) B.pre
  have hts : ∀ w ∈ zAll, w.before _ s = true := fun w hw => hts0 w (List.mem_cons_of_mem _ hw)
  have hown : s.vm.findClass RX1 = some m.cls := findClass_of_methodNamed B.named
  have hlocks := B.notSynchronized
  have hin0 : meth.name = "<init>" := (name_of_methodNamed B.named B.method).1
  subst hsz
  have hD := hD0.self (sz := s.heap.size)
  generalize hAe : va_A [(h0, .inr (1, [.null, .null, .null, .null, .null, .null, .int 0]))] s.heap.size = A at hD ⊢
  have hA : ∀ q : Nat, s.heap.size ≤ q → A q := fun q h => by rw [← hAe]; exact Or.inr h
  have hS : va_S A s.heap s.heap [] := va_S.rf
  have hl := lv_entry ([.ref h0, .ref g9]) (n := 2) (Nat.le_of_ble_eq_true rfl)
  rw [lg_entry_eq]
  generalize (lg_sl ([.ref h0, .ref g9]) ++ List.replicate (2 - (lg_sl ([.ref h0, .ref g9])).length) Slot.unset).toArray = ls at hl ⊢
  have hl : lv_has ls 2 [(0, .ref h0), (1, .ref g9)] := hl
  refine lv_aload_n hx hb dX1_init_0 rfl (lv_at hl 0 rfl) ?_
  refine W.objInit hx hb hown (idx := 3) (hts _ (zMem_spec (by decide +kernel))) (hts _ (zMem_spec (by decide +kernel))) (hts _ (zMem_spec (by decide +kernel))) rfl (by rw [hml]; exact hl.1) rfl dX1_init_1 (Nat.le_of_ble_eq_true rfl) (Nat.le_of_ble_eq_true rfl) ?_
  refine W.eq (g2 := F0 m 4 ls []) rfl ?_
  refine lv_aload_n hx hb dX1_init_4 rfl (lv_at hl 0 rfl) ?_
  refine va_new (ci := 3) (fs := [.null, .null, .int 0, .int 0]) (C := RX3) (T := TX3) (N := 4) hx hb hts (zcls 3 _ rfl).1 tyX3 tyX3_ok hown (hts _ (zMem_spec (by decide +kernel))) (hts _ (zMem_spec (by decide +kernel))) (hts _ (zMem_spec (by decide +kernel))) hK hP hD hS hA rfl (fun j hj => by rcases (show j = 0 ∨ j = 1 ∨ j = 2 ∨ j = 3 by omega) with rfl | rfl | rfl | rfl <;> rfl) (Nat.le_of_ble_eq_true rfl) (Nat.le_of_ble_eq_true rfl) dX1_init_5 (fun q1 H hP hD hS => ?_)
  refine W.widen (k := 1) (n := 4) (Nat.le_of_ble_eq_true rfl) (Nat.le_of_ble_eq_true rfl) ?_
  have hP : va_P D vwCl (((h0, .inr (1, [.null, .null, .null, .null, .null, .null, .int 0])) :: ([])) ++ [(q1, .inr (3, [.null, .null, .int 0, .int 0]))]) H := by have h9 := hP; simpa only [List.cons_append, List.nil_append, List.append_assoc] using h9
  have hD : va_D A (((h0, .inr (1, [.null, .null, .null, .null, .null, .null, .int 0])) :: ([])) ++ [(q1, .inr (3, [.null, .null, .int 0, .int 0]))]) := by have h9 := hD; simpa only [List.cons_append, List.nil_append, List.append_assoc] using h9
  refine lv_dup hx hb dX1_init_8 rfl ?_
  refine z_ctor (va_runIN (b := q1) (As := []) (rest := [.ref q1, .ref h0]) ⟨hx, hb, hml, hown, hts⟩ (nX3 l D cI cM q1 H.size) ⟨va_cnB 0 hts (zGood (zMem_spec (by decide +kernel))) rfl rfl rfl (hnw (.methodLinkNest RX1 11 yX3_init RX4) (by unfold zNI; simp)) (hts _ (zMem_spec (by decide +kernel))) (by decide +kernel) ⟨Nat.le_of_ble_eq_true rfl, Nat.le_of_ble_eq_true rfl⟩, rfl, hts _ (zMem_spec (by decide +kernel))⟩ (z_preN hK hP hD hO hnw) rfl rfl hl.1 rfl (lv_room (Nat.le_of_ble_eq_true rfl)) dX1_init_9 ⟨Nat.le_of_ble_eq_true rfl, Nat.le_of_ble_eq_true rfl⟩) hP hD hS hA (fun w9 H locs hB hP hD hS => ?_)
  refine W.widen (k := 15) (n := 172) (Nat.le_of_ble_eq_true rfl) (Nat.le_of_ble_eq_true rfl) ?_
  obtain ⟨q2, r2, q3, rfl⟩ := hB
  have hP : va_P D vwCl ((h0, .inr (1, [.null, .null, .null, .null, .null, .null, .int 0])) :: ([(q1, .inr (3, [.ref q2, .ref q3, .int 0, .int 0]))] ++ zmat cI cM q2 r2 (fun _ _ => 0) ++ [(q3, .inl (cI, 12, .inl (fun _ => 0)))])) H := by have h9 := hP; simpa only [List.cons_append, List.nil_append, List.append_assoc] using h9
  have hD : va_D A ((h0, .inr (1, [.null, .null, .null, .null, .null, .null, .int 0])) :: ([(q1, .inr (3, [.ref q2, .ref q3, .int 0, .int 0]))] ++ zmat cI cM q2 r2 (fun _ _ => 0) ++ [(q3, .inl (cI, 12, .inl (fun _ => 0)))])) := by have h9 := hD; simpa only [List.cons_append, List.nil_append, List.append_assoc] using h9
  refine va_putF (D := D) (ci := 1) (v := .ref q1) (ty := .object "CutTreeKeeper$NearCutFinder") (C := RX1) (T := TX1) (N := 7) (ref := (TX1 1).1) hx hb hts (zcls 1 _ rfl).1 tyX1 tyX1_ok nmX1 hown hK hP hD hS 0 rfl rfl 1 (by decide) (hts _ (zMem_spec (by decide +kernel))) (fun _ h9 => h9) rfl hin0 rfl (by decide +kernel) rfl rfl (Nat.le_of_ble_eq_true rfl) dX1_init_12 (fun H locs hP hD hS => ?_)
  have hP : va_P D vwCl ((h0, .inr (1, [.null, .ref q1, .null, .null, .null, .null, .int 0])) :: ([(q1, .inr (3, [.ref q2, .ref q3, .int 0, .int 0]))] ++ zmat cI cM q2 r2 (fun _ _ => 0) ++ [(q3, .inl (cI, 12, .inl (fun _ => 0)))])) H := hP
  have hD : va_D A ((h0, .inr (1, [.null, .ref q1, .null, .null, .null, .null, .int 0])) :: ([(q1, .inr (3, [.ref q2, .ref q3, .int 0, .int 0]))] ++ zmat cI cM q2 r2 (fun _ _ => 0) ++ [(q3, .inl (cI, 12, .inl (fun _ => 0)))])) := hD
  refine lv_aload_n hx hb dX1_init_15 rfl (lv_at hl 0 rfl) ?_
  refine lv_bipush (v := 12) hx hb dX1_init_16 (by decide) ?_
  refine lv_bipush (v := 12) hx hb dX1_init_18 (by decide) ?_
  refine z_mna (own := RX1) (cI := cI) (cM := cM) hx hb hown (hts _ (zMem_spec (by decide +kernel))) hO (hts _ (zMem_spec (by decide +kernel))) hK hP hD hS hA (Nat.le_of_ble_eq_true rfl) (Nat.le_of_ble_eq_true rfl) dX1_init_20 (fun q4 r4 H hP hD hS => ?_)
  refine W.widen (k := 28) (n := 328) (Nat.le_of_ble_eq_true rfl) (Nat.le_of_ble_eq_true rfl) ?_
  have hP : va_P D vwCl ((h0, .inr (1, [.null, .ref q1, .null, .null, .null, .null, .int 0])) :: ([(q1, .inr (3, [.ref q2, .ref q3, .int 0, .int 0]))] ++ zmat cI cM q2 r2 (fun _ _ => 0) ++ [(q3, .inl (cI, 12, .inl (fun _ => 0)))] ++ zmat cI cM q4 r4 (fun _ _ => 0))) H := hP
  have hD : va_D A ((h0, .inr (1, [.null, .ref q1, .null, .null, .null, .null, .int 0])) :: ([(q1, .inr (3, [.ref q2, .ref q3, .int 0, .int 0]))] ++ zmat cI cM q2 r2 (fun _ _ => 0) ++ [(q3, .inl (cI, 12, .inl (fun _ => 0)))] ++ zmat cI cM q4 r4 (fun _ _ => 0))) := hD
  refine va_putF (D := D) (ci := 1) (v := .ref q4) (ty := .array (.array .int)) (C := RX1) (T := TX1) (N := 7) (ref := (TX1 2).1) hx hb hts (zcls 1 _ rfl).1 tyX1 tyX1_ok nmX1 hown hK hP hD hS 0 rfl rfl 2 (by decide) (hts _ (zMem_spec (by decide +kernel))) (fun _ h9 => h9) rfl hin0 rfl (by decide +kernel) rfl rfl (Nat.le_of_ble_eq_true rfl) dX1_init_24 (fun H locs hP hD hS => ?_)
  have hP : va_P D vwCl ((h0, .inr (1, [.null, .ref q1, .ref q4, .null, .null, .null, .int 0])) :: ([(q1, .inr (3, [.ref q2, .ref q3, .int 0, .int 0]))] ++ zmat cI cM q2 r2 (fun _ _ => 0) ++ [(q3, .inl (cI, 12, .inl (fun _ => 0)))] ++ zmat cI cM q4 r4 (fun _ _ => 0))) H := hP
  have hD : va_D A ((h0, .inr (1, [.null, .ref q1, .ref q4, .null, .null, .null, .int 0])) :: ([(q1, .inr (3, [.ref q2, .ref q3, .int 0, .int 0]))] ++ zmat cI cM q2 r2 (fun _ _ => 0) ++ [(q3, .inl (cI, 12, .inl (fun _ => 0)))] ++ zmat cI cM q4 r4 (fun _ _ => 0))) := hD
  refine lv_aload_n hx hb dX1_init_27 rfl (lv_at hl 0 rfl) ?_
  refine lv_bipush (v := 12) hx hb dX1_init_28 (by decide) ?_
  refine z_newa (N := 12) hx hb (hts _ (zMem_spec (by decide +kernel))) hK hP hD hS hA (by decide) (by decide) (by decide) (Nat.le_of_ble_eq_true rfl) (Nat.le_of_ble_eq_true rfl) dX1_init_30 (fun q5 H hP hD hS => ?_)
  refine W.widen (k := 29) (n := 340) (Nat.le_of_ble_eq_true rfl) (Nat.le_of_ble_eq_true rfl) ?_
  have hP : va_P D vwCl ((h0, .inr (1, [.null, .ref q1, .ref q4, .null, .null, .null, .int 0])) :: ([(q1, .inr (3, [.ref q2, .ref q3, .int 0, .int 0]))] ++ zmat cI cM q2 r2 (fun _ _ => 0) ++ [(q3, .inl (cI, 12, .inl (fun _ => 0)))] ++ zmat cI cM q4 r4 (fun _ _ => 0) ++ [(q5, .inl (cI, 12, .inl (fun _ => 0)))])) H := hP
  have hD : va_D A ((h0, .inr (1, [.null, .ref q1, .ref q4, .null, .null, .null, .int 0])) :: ([(q1, .inr (3, [.ref q2, .ref q3, .int 0, .int 0]))] ++ zmat cI cM q2 r2 (fun _ _ => 0) ++ [(q3, .inl (cI, 12, .inl (fun _ => 0)))] ++ zmat cI cM q4 r4 (fun _ _ => 0) ++ [(q5, .inl (cI, 12, .inl (fun _ => 0)))])) := hD
  refine va_putF (D := D) (ci := 1) (v := .ref q5) (ty := .array .int) (C := RX1) (T := TX1) (N := 7) (ref := (TX1 3).1) hx hb hts (zcls 1 _ rfl).1 tyX1 tyX1_ok nmX1 hown hK hP hD hS 0 rfl rfl 3 (by decide) (hts _ (zMem_spec (by decide +kernel))) (fun _ h9 => h9) rfl hin0 rfl (by decide +kernel) rfl rfl (Nat.le_of_ble_eq_true rfl) dX1_init_32 (fun H locs hP hD hS => ?_)
  have hP : va_P D vwCl ((h0, .inr (1, [.null, .ref q1, .ref q4, .ref q5, .null, .null, .int 0])) :: ([(q1, .inr (3, [.ref q2, .ref q3, .int 0, .int 0]))] ++ zmat cI cM q2 r2 (fun _ _ => 0) ++ [(q3, .inl (cI, 12, .inl (fun _ => 0)))] ++ zmat cI cM q4 r4 (fun _ _ => 0) ++ [(q5, .inl (cI, 12, .inl (fun _ => 0)))])) H := hP
  have hD : va_D A ((h0, .inr (1, [.null, .ref q1, .ref q4, .ref q5, .null, .null, .int 0])) :: ([(q1, .inr (3, [.ref q2, .ref q3, .int 0, .int 0]))] ++ zmat cI cM q2 r2 (fun _ _ => 0) ++ [(q3, .inl (cI, 12, .inl (fun _ => 0)))] ++ zmat cI cM q4 r4 (fun _ _ => 0) ++ [(q5, .inl (cI, 12, .inl (fun _ => 0)))])) := hD
  refine lv_aload_n hx hb dX1_init_35 rfl (lv_at hl 0 rfl) ?_
  refine lv_bipush (v := 12) hx hb dX1_init_36 (by decide) ?_
  refine z_newa (N := 12) hx hb (hts _ (zMem_spec (by decide +kernel))) hK hP hD hS hA (by decide) (by decide) (by decide) (Nat.le_of_ble_eq_true rfl) (Nat.le_of_ble_eq_true rfl) dX1_init_38 (fun q6 H hP hD hS => ?_)
  refine W.widen (k := 30) (n := 352) (Nat.le_of_ble_eq_true rfl) (Nat.le_of_ble_eq_true rfl) ?_
  have hP : va_P D vwCl ((h0, .inr (1, [.null, .ref q1, .ref q4, .ref q5, .null, .null, .int 0])) :: ([(q1, .inr (3, [.ref q2, .ref q3, .int 0, .int 0]))] ++ zmat cI cM q2 r2 (fun _ _ => 0) ++ [(q3, .inl (cI, 12, .inl (fun _ => 0)))] ++ zmat cI cM q4 r4 (fun _ _ => 0) ++ [(q5, .inl (cI, 12, .inl (fun _ => 0)))] ++ [(q6, .inl (cI, 12, .inl (fun _ => 0)))])) H := hP
  have hD : va_D A ((h0, .inr (1, [.null, .ref q1, .ref q4, .ref q5, .null, .null, .int 0])) :: ([(q1, .inr (3, [.ref q2, .ref q3, .int 0, .int 0]))] ++ zmat cI cM q2 r2 (fun _ _ => 0) ++ [(q3, .inl (cI, 12, .inl (fun _ => 0)))] ++ zmat cI cM q4 r4 (fun _ _ => 0) ++ [(q5, .inl (cI, 12, .inl (fun _ => 0)))] ++ [(q6, .inl (cI, 12, .inl (fun _ => 0)))])) := hD
  refine va_putF (D := D) (ci := 1) (v := .ref q6) (ty := .array .int) (C := RX1) (T := TX1) (N := 7) (ref := (TX1 4).1) hx hb hts (zcls 1 _ rfl).1 tyX1 tyX1_ok nmX1 hown hK hP hD hS 0 rfl rfl 4 (by decide) (hts _ (zMem_spec (by decide +kernel))) (fun _ h9 => h9) rfl hin0 rfl (by decide +kernel) rfl rfl (Nat.le_of_ble_eq_true rfl) dX1_init_40 (fun H locs hP hD hS => ?_)
  have hP : va_P D vwCl ((h0, .inr (1, [.null, .ref q1, .ref q4, .ref q5, .ref q6, .null, .int 0])) :: ([(q1, .inr (3, [.ref q2, .ref q3, .int 0, .int 0]))] ++ zmat cI cM q2 r2 (fun _ _ => 0) ++ [(q3, .inl (cI, 12, .inl (fun _ => 0)))] ++ zmat cI cM q4 r4 (fun _ _ => 0) ++ [(q5, .inl (cI, 12, .inl (fun _ => 0)))] ++ [(q6, .inl (cI, 12, .inl (fun _ => 0)))])) H := hP
  have hD : va_D A ((h0, .inr (1, [.null, .ref q1, .ref q4, .ref q5, .ref q6, .null, .int 0])) :: ([(q1, .inr (3, [.ref q2, .ref q3, .int 0, .int 0]))] ++ zmat cI cM q2 r2 (fun _ _ => 0) ++ [(q3, .inl (cI, 12, .inl (fun _ => 0)))] ++ zmat cI cM q4 r4 (fun _ _ => 0) ++ [(q5, .inl (cI, 12, .inl (fun _ => 0)))] ++ [(q6, .inl (cI, 12, .inl (fun _ => 0)))])) := hD
  refine lv_aload_n hx hb dX1_init_43 rfl (lv_at hl 0 rfl) ?_
  refine lv_bipush (v := 12) hx hb dX1_init_44 (by decide) ?_
  refine z_newa (N := 12) hx hb (hts _ (zMem_spec (by decide +kernel))) hK hP hD hS hA (by decide) (by decide) (by decide) (Nat.le_of_ble_eq_true rfl) (Nat.le_of_ble_eq_true rfl) dX1_init_46 (fun q7 H hP hD hS => ?_)
  refine W.widen (k := 31) (n := 364) (Nat.le_of_ble_eq_true rfl) (Nat.le_of_ble_eq_true rfl) ?_
  have hP : va_P D vwCl ((h0, .inr (1, [.null, .ref q1, .ref q4, .ref q5, .ref q6, .null, .int 0])) :: ([(q1, .inr (3, [.ref q2, .ref q3, .int 0, .int 0]))] ++ zmat cI cM q2 r2 (fun _ _ => 0) ++ [(q3, .inl (cI, 12, .inl (fun _ => 0)))] ++ zmat cI cM q4 r4 (fun _ _ => 0) ++ [(q5, .inl (cI, 12, .inl (fun _ => 0)))] ++ [(q6, .inl (cI, 12, .inl (fun _ => 0)))] ++ [(q7, .inl (cI, 12, .inl (fun _ => 0)))])) H := hP
  have hD : va_D A ((h0, .inr (1, [.null, .ref q1, .ref q4, .ref q5, .ref q6, .null, .int 0])) :: ([(q1, .inr (3, [.ref q2, .ref q3, .int 0, .int 0]))] ++ zmat cI cM q2 r2 (fun _ _ => 0) ++ [(q3, .inl (cI, 12, .inl (fun _ => 0)))] ++ zmat cI cM q4 r4 (fun _ _ => 0) ++ [(q5, .inl (cI, 12, .inl (fun _ => 0)))] ++ [(q6, .inl (cI, 12, .inl (fun _ => 0)))] ++ [(q7, .inl (cI, 12, .inl (fun _ => 0)))])) := hD
  refine va_putF (D := D) (ci := 1) (v := .ref q7) (ty := .array .int) (C := RX1) (T := TX1) (N := 7) (ref := (TX1 5).1) hx hb hts (zcls 1 _ rfl).1 tyX1 tyX1_ok nmX1 hown hK hP hD hS 0 rfl rfl 5 (by decide) (hts _ (zMem_spec (by decide +kernel))) (fun _ h9 => h9) rfl hin0 rfl (by decide +kernel) rfl rfl (Nat.le_of_ble_eq_true rfl) dX1_init_48 (fun H locs hP hD hS => ?_)
  have hP : va_P D vwCl ((h0, .inr (1, [.null, .ref q1, .ref q4, .ref q5, .ref q6, .ref q7, .int 0])) :: ([(q1, .inr (3, [.ref q2, .ref q3, .int 0, .int 0]))] ++ zmat cI cM q2 r2 (fun _ _ => 0) ++ [(q3, .inl (cI, 12, .inl (fun _ => 0)))] ++ zmat cI cM q4 r4 (fun _ _ => 0) ++ [(q5, .inl (cI, 12, .inl (fun _ => 0)))] ++ [(q6, .inl (cI, 12, .inl (fun _ => 0)))] ++ [(q7, .inl (cI, 12, .inl (fun _ => 0)))])) H := hP
  have hD : va_D A ((h0, .inr (1, [.null, .ref q1, .ref q4, .ref q5, .ref q6, .ref q7, .int 0])) :: ([(q1, .inr (3, [.ref q2, .ref q3, .int 0, .int 0]))] ++ zmat cI cM q2 r2 (fun _ _ => 0) ++ [(q3, .inl (cI, 12, .inl (fun _ => 0)))] ++ zmat cI cM q4 r4 (fun _ _ => 0) ++ [(q5, .inl (cI, 12, .inl (fun _ => 0)))] ++ [(q6, .inl (cI, 12, .inl (fun _ => 0)))] ++ [(q7, .inl (cI, 12, .inl (fun _ => 0)))])) := hD
  refine lv_aload_n hx hb dX1_init_51 rfl (lv_at hl 0 rfl) ?_
  refine lv_iconst (v := 0) hx hb dX1_init_52 (by decide) ?_
  refine va_put (D := D) (ci := 1) (v := .int 0) (ty := .boolean) (C := RX1) (T := TX1) (N := 7) (ref := (TX1 6).1) hx hb hts (zcls 1 _ rfl).1 tyX1 tyX1_ok nmX1 hown hK hP hD hS 0 rfl rfl 6 (by decide) (hts _ (zMem_spec (by decide +kernel))) (fun _ h9 => h9) rfl (by decide +kernel) rfl rfl (Nat.le_of_ble_eq_true rfl) dX1_init_53 (fun H locs hP hD hS => ?_)
  have hP : va_P D vwCl ((h0, .inr (1, [.null, .ref q1, .ref q4, .ref q5, .ref q6, .ref q7, .int 0])) :: ([(q1, .inr (3, [.ref q2, .ref q3, .int 0, .int 0]))] ++ zmat cI cM q2 r2 (fun _ _ => 0) ++ [(q3, .inl (cI, 12, .inl (fun _ => 0)))] ++ zmat cI cM q4 r4 (fun _ _ => 0) ++ [(q5, .inl (cI, 12, .inl (fun _ => 0)))] ++ [(q6, .inl (cI, 12, .inl (fun _ => 0)))] ++ [(q7, .inl (cI, 12, .inl (fun _ => 0)))])) H := hP
  have hD : va_D A ((h0, .inr (1, [.null, .ref q1, .ref q4, .ref q5, .ref q6, .ref q7, .int 0])) :: ([(q1, .inr (3, [.ref q2, .ref q3, .int 0, .int 0]))] ++ zmat cI cM q2 r2 (fun _ _ => 0) ++ [(q3, .inl (cI, 12, .inl (fun _ => 0)))] ++ zmat cI cM q4 r4 (fun _ _ => 0) ++ [(q5, .inl (cI, 12, .inl (fun _ => 0)))] ++ [(q6, .inl (cI, 12, .inl (fun _ => 0)))] ++ [(q7, .inl (cI, 12, .inl (fun _ => 0)))])) := hD
  refine lv_aload_n hx hb dX1_init_56 rfl (lv_at hl 0 rfl) ?_
  refine lv_aload_n hx hb dX1_init_57 rfl (lv_at hl 1 rfl) ?_
  refine va_putF (D := D) (ci := 1) (v := .ref g9) (ty := .object "CutTreeKeeper$Graph") (C := RX1) (T := TX1) (N := 7) (ref := (TX1 0).1) hx hb hts (zcls 1 _ rfl).1 tyX1 tyX1_ok nmX1 hown hK hP hD hS 0 rfl rfl 0 (by decide) (hts _ (zMem_spec (by decide +kernel))) (fun _ h9 => h9) rfl hin0 rfl (by decide +kernel) rfl rfl (Nat.le_of_ble_eq_true rfl) dX1_init_58 (fun H locs hP hD hS => ?_)
  have hP : va_P D vwCl ((h0, .inr (1, [.ref g9, .ref q1, .ref q4, .ref q5, .ref q6, .ref q7, .int 0])) :: ([(q1, .inr (3, [.ref q2, .ref q3, .int 0, .int 0]))] ++ zmat cI cM q2 r2 (fun _ _ => 0) ++ [(q3, .inl (cI, 12, .inl (fun _ => 0)))] ++ zmat cI cM q4 r4 (fun _ _ => 0) ++ [(q5, .inl (cI, 12, .inl (fun _ => 0)))] ++ [(q6, .inl (cI, 12, .inl (fun _ => 0)))] ++ [(q7, .inl (cI, 12, .inl (fun _ => 0)))])) H := hP
  have hD : va_D A ((h0, .inr (1, [.ref g9, .ref q1, .ref q4, .ref q5, .ref q6, .ref q7, .int 0])) :: ([(q1, .inr (3, [.ref q2, .ref q3, .int 0, .int 0]))] ++ zmat cI cM q2 r2 (fun _ _ => 0) ++ [(q3, .inl (cI, 12, .inl (fun _ => 0)))] ++ zmat cI cM q4 r4 (fun _ _ => 0) ++ [(q5, .inl (cI, 12, .inl (fun _ => 0)))] ++ [(q6, .inl (cI, 12, .inl (fun _ => 0)))] ++ [(q7, .inl (cI, 12, .inl (fun _ => 0)))])) := hD
  exact W.vret hx hb hr (fun t ht hW => ⟨⟨(), rfl, trivial, _, ⟨q1, q2, r2, q3, q4, r4, q5, q6, q7, rfl⟩, by rw [ht]; exact hP, by rw [hAe]; exact hD⟩, hS.F ht⟩) hS.2.2 dX1_init_61
def BX4 (cI cM : ClassId) (h0 : Nat) : va_W → Prop := fun ws => ∃ q1 : Nat, ∃ q2 : Nat, ∃ r2 : Nat → Nat, ∃ q3 : Nat, ∃ q4 : Nat, ∃ q5 : Nat, ∃ q6 : Nat, ∃ q7 : Nat, ∃ q8 : Nat, ∃ q9 : Nat, ∃ r9 : Nat → Nat, ∃ q10 : Nat, ∃ q11 : Nat, ∃ r11 : Nat → Nat, ∃ q12 : Nat, ∃ q13 : Nat, ∃ q14 : Nat, ws = (h0, .inr (4, [.ref q1, .ref q3, .ref q7, .int 0])) :: ([(q1, .inr (2, [.ref q2, .int 4]))] ++ zmat cI cM q2 r2 (fun _ _ => 0) ++ [(q3, .inr (0, [.ref q4, .ref q5, .ref q6, .int 0, .int 0]))] ++ [(q4, .inl (cI, 40, .inl (fun _ => 0)))] ++ [(q5, .inl (cI, 40, .inl (fun _ => 0)))] ++ [(q6, .inl (cI, 40, .inl (fun _ => 0)))] ++ [(q7, .inr (1, [.ref q1, .ref q8, .ref q11, .ref q12, .ref q13, .ref q14, .int 0]))] ++ [(q8, .inr (3, [.ref q9, .ref q10, .int 0, .int 0]))] ++ zmat cI cM q9 r9 (fun _ _ => 0) ++ [(q10, .inl (cI, 12, .inl (fun _ => 0)))] ++ zmat cI cM q11 r11 (fun _ _ => 0) ++ [(q12, .inl (cI, 12, .inl (fun _ => 0)))] ++ [(q13, .inl (cI, 12, .inl (fun _ => 0)))] ++ [(q14, .inl (cI, 12, .inl (fun _ => 0)))])
set_option maxRecDepth 100000 in
set_option maxHeartbeats 4000000 in
theorem nX4 (l : Launch) (D : va_G) (cI cM : ClassId) (h0 sz : Nat) : zNMet l yX4_init cX4_init 1 { frames := 3, cells := 50, slots := 654, locals := 60 } D cI cM [.ref h0] (h0, .inr (4, [.null, .null, .null, .int 0])) (BX4 cI cM h0) sz 50 654 := by
  refine Met.ofW (cc := cX4_init) (maxL := 1) (ret := none) (by decide) rfl ?_
  intro p e s m args below meth c s₁ B hml hv
  obtain ⟨rfl, hsz, hP, hK, hD0, hO, hnw⟩ := hv
  have hx := B.exec
  have hb := B.bytes
  have hr := B.returns
  have hts0 := atoms_spec (ws := .code yX4_init cX4_init 1 none :: zAll) B.pre
  have hts : ∀ w ∈ zAll, w.before _ s = true := fun w hw => hts0 w (List.mem_cons_of_mem _ hw)
  have hown : s.vm.findClass RX4 = some m.cls := findClass_of_methodNamed B.named
  have hlocks := B.notSynchronized
  have hin0 : meth.name = "<init>" := (name_of_methodNamed B.named B.method).1
  subst hsz
  have hD := hD0.self (sz := s.heap.size)
  generalize hAe : va_A [(h0, .inr (4, [.null, .null, .null, .int 0]))] s.heap.size = A at hD ⊢
  have hA : ∀ q : Nat, s.heap.size ≤ q → A q := fun q h => by rw [← hAe]; exact Or.inr h
  have hS : va_S A s.heap s.heap [] := va_S.rf
  have hl := lv_entry ([.ref h0]) (n := 1) (Nat.le_of_ble_eq_true rfl)
  rw [lg_entry_eq]
  generalize (lg_sl ([.ref h0]) ++ List.replicate (1 - (lg_sl ([.ref h0])).length) Slot.unset).toArray = ls at hl ⊢
  have hl : lv_has ls 1 [(0, .ref h0)] := hl
  refine lv_aload_n hx hb dX4_init_0 rfl (lv_at hl 0 rfl) ?_
  refine W.objInit hx hb hown (idx := 3) (hts _ (zMem_spec (by decide +kernel))) (hts _ (zMem_spec (by decide +kernel))) (hts _ (zMem_spec (by decide +kernel))) rfl (by rw [hml]; exact hl.1) rfl dX4_init_1 (Nat.le_of_ble_eq_true rfl) (Nat.le_of_ble_eq_true rfl) ?_
  refine W.eq (g2 := F0 m 4 ls []) rfl ?_
  refine lv_aload_n hx hb dX4_init_4 rfl (lv_at hl 0 rfl) ?_
  refine va_new (ci := 2) (fs := [.null, .int 0]) (C := RX2) (T := TX2) (N := 2) hx hb hts (zcls 2 _ rfl).1 tyX2 tyX2_ok hown (hts _ (zMem_spec (by decide +kernel))) (hts _ (zMem_spec (by decide +kernel))) (hts _ (zMem_spec (by decide +kernel))) hK hP hD hS hA rfl (fun j hj => by rcases (show j = 0 ∨ j = 1 by omega) with rfl | rfl <;> rfl) (Nat.le_of_ble_eq_true rfl) (Nat.le_of_ble_eq_true rfl) dX4_init_5 (fun q1 H hP hD hS => ?_)
  refine W.widen (k := 1) (n := 2) (Nat.le_of_ble_eq_true rfl) (Nat.le_of_ble_eq_true rfl) ?_
  have hP : va_P D vwCl (((h0, .inr (4, [.null, .null, .null, .int 0])) :: ([])) ++ [(q1, .inr (2, [.null, .int 0]))]) H := by have h9 := hP; simpa only [List.cons_append, List.nil_append, List.append_assoc] using h9
  have hD : va_D A (((h0, .inr (4, [.null, .null, .null, .int 0])) :: ([])) ++ [(q1, .inr (2, [.null, .int 0]))]) := by have h9 := hD; simpa only [List.cons_append, List.nil_append, List.append_assoc] using h9
  refine lv_dup hx hb dX4_init_8 rfl ?_
  refine lv_iconst (v := 4) hx hb dX4_init_9 (by decide) ?_
  refine z_ctor (va_runI (b := q1) (As := [.int 4]) (rest := [.ref q1, .ref h0]) ⟨hx, hb, hml, hown, hts⟩ (nX2 l D cI cM q1 H.size 4) (cwI 1 hts (zGood (zMem_spec (by decide +kernel))) rfl rfl rfl (hts _ (zMem_spec (by decide +kernel))) (hts (.methodLink RX4 11 yX2_init) (zMem_spec (by decide +kernel))) (hts _ (zMem_spec (by decide +kernel))) rfl (by decide +kernel) ⟨Nat.le_of_ble_eq_true rfl, Nat.le_of_ble_eq_true rfl⟩) (z_preN hK hP hD hO hnw) rfl rfl hl.1 rfl (lv_room (Nat.le_of_ble_eq_true rfl)) dX4_init_10 ⟨Nat.le_of_ble_eq_true rfl, Nat.le_of_ble_eq_true rfl⟩) hP hD hS hA (fun w9 H locs hB hP hD hS => ?_)
  refine W.widen (k := 14) (n := 158) (Nat.le_of_ble_eq_true rfl) (Nat.le_of_ble_eq_true rfl) ?_
  obtain ⟨q2, r2, rfl⟩ := hB
  have hP : va_P D vwCl ((h0, .inr (4, [.null, .null, .null, .int 0])) :: ([(q1, .inr (2, [.ref q2, .int 4]))] ++ zmat cI cM q2 r2 (fun _ _ => 0))) H := by have h9 := hP; simpa only [List.cons_append, List.nil_append, List.append_assoc] using h9
  have hD : va_D A ((h0, .inr (4, [.null, .null, .null, .int 0])) :: ([(q1, .inr (2, [.ref q2, .int 4]))] ++ zmat cI cM q2 r2 (fun _ _ => 0))) := by have h9 := hD; simpa only [List.cons_append, List.nil_append, List.append_assoc] using h9
  refine va_putF (D := D) (ci := 4) (v := .ref q1) (ty := .object "CutTreeKeeper$Graph") (C := RX4) (T := TX4) (N := 4) (ref := (TX4 0).1) hx hb hts (zcls 4 _ rfl).1 tyX4 tyX4_ok nmX4 hown hK hP hD hS 0 rfl rfl 0 (by decide) (hts _ (zMem_spec (by decide +kernel))) (fun _ h9 => h9) rfl hin0 rfl (by decide +kernel) rfl rfl (Nat.le_of_ble_eq_true rfl) dX4_init_13 (fun H locs hP hD hS => ?_)
  have hP : va_P D vwCl ((h0, .inr (4, [.ref q1, .null, .null, .int 0])) :: ([(q1, .inr (2, [.ref q2, .int 4]))] ++ zmat cI cM q2 r2 (fun _ _ => 0))) H := hP
  have hD : va_D A ((h0, .inr (4, [.ref q1, .null, .null, .int 0])) :: ([(q1, .inr (2, [.ref q2, .int 4]))] ++ zmat cI cM q2 r2 (fun _ _ => 0))) := hD
  refine lv_aload_n hx hb dX4_init_16 rfl (lv_at hl 0 rfl) ?_
  refine va_new (ci := 0) (fs := [.null, .null, .null, .int 0, .int 0]) (C := RX0) (T := TX0) (N := 5) hx hb hts (zcls 0 _ rfl).1 tyX0 tyX0_ok hown (hts _ (zMem_spec (by decide +kernel))) (hts _ (zMem_spec (by decide +kernel))) (hts _ (zMem_spec (by decide +kernel))) hK hP hD hS hA rfl (fun j hj => by rcases (show j = 0 ∨ j = 1 ∨ j = 2 ∨ j = 3 ∨ j = 4 by omega) with rfl | rfl | rfl | rfl | rfl <;> rfl) (Nat.le_of_ble_eq_true rfl) (Nat.le_of_ble_eq_true rfl) dX4_init_17 (fun q3 H hP hD hS => ?_)
  refine W.widen (k := 15) (n := 163) (Nat.le_of_ble_eq_true rfl) (Nat.le_of_ble_eq_true rfl) ?_
  have hP : va_P D vwCl (((h0, .inr (4, [.ref q1, .null, .null, .int 0])) :: ([(q1, .inr (2, [.ref q2, .int 4]))] ++ zmat cI cM q2 r2 (fun _ _ => 0))) ++ [(q3, .inr (0, [.null, .null, .null, .int 0, .int 0]))]) H := by have h9 := hP; simpa only [List.cons_append, List.nil_append, List.append_assoc] using h9
  have hD : va_D A (((h0, .inr (4, [.ref q1, .null, .null, .int 0])) :: ([(q1, .inr (2, [.ref q2, .int 4]))] ++ zmat cI cM q2 r2 (fun _ _ => 0))) ++ [(q3, .inr (0, [.null, .null, .null, .int 0, .int 0]))]) := by have h9 := hD; simpa only [List.cons_append, List.nil_append, List.append_assoc] using h9
  refine lv_dup hx hb dX4_init_20 rfl ?_
  refine z_ctor (va_runIN (b := q3) (As := []) (rest := [.ref q3, .ref h0]) ⟨hx, hb, hml, hown, hts⟩ (nX0 l D cI cM q3 H.size) ⟨va_cnB 0 hts (zGood (zMem_spec (by decide +kernel))) rfl rfl rfl (hnw (.methodLinkNest RX4 20 yX0_init RX4) (by unfold zNI; simp)) (hts _ (zMem_spec (by decide +kernel))) (by decide +kernel) ⟨Nat.le_of_ble_eq_true rfl, Nat.le_of_ble_eq_true rfl⟩, rfl, hts _ (zMem_spec (by decide +kernel))⟩ (z_preN hK hP hD hO hnw) rfl rfl hl.1 rfl (lv_room (Nat.le_of_ble_eq_true rfl)) dX4_init_21 ⟨Nat.le_of_ble_eq_true rfl, Nat.le_of_ble_eq_true rfl⟩) hP hD hS hA (fun w9 H locs hB hP hD hS => ?_)
  refine W.widen (k := 18) (n := 283) (Nat.le_of_ble_eq_true rfl) (Nat.le_of_ble_eq_true rfl) ?_
  obtain ⟨q4, q5, q6, rfl⟩ := hB
  have hP : va_P D vwCl ((h0, .inr (4, [.ref q1, .null, .null, .int 0])) :: ([(q1, .inr (2, [.ref q2, .int 4]))] ++ zmat cI cM q2 r2 (fun _ _ => 0) ++ [(q3, .inr (0, [.ref q4, .ref q5, .ref q6, .int 0, .int 0]))] ++ [(q4, .inl (cI, 40, .inl (fun _ => 0)))] ++ [(q5, .inl (cI, 40, .inl (fun _ => 0)))] ++ [(q6, .inl (cI, 40, .inl (fun _ => 0)))])) H := by have h9 := hP; simpa only [List.cons_append, List.nil_append, List.append_assoc] using h9
  have hD : va_D A ((h0, .inr (4, [.ref q1, .null, .null, .int 0])) :: ([(q1, .inr (2, [.ref q2, .int 4]))] ++ zmat cI cM q2 r2 (fun _ _ => 0) ++ [(q3, .inr (0, [.ref q4, .ref q5, .ref q6, .int 0, .int 0]))] ++ [(q4, .inl (cI, 40, .inl (fun _ => 0)))] ++ [(q5, .inl (cI, 40, .inl (fun _ => 0)))] ++ [(q6, .inl (cI, 40, .inl (fun _ => 0)))])) := by have h9 := hD; simpa only [List.cons_append, List.nil_append, List.append_assoc] using h9
  refine va_putF (D := D) (ci := 4) (v := .ref q3) (ty := .object "CutTreeKeeper$ChangeList") (C := RX4) (T := TX4) (N := 4) (ref := (TX4 1).1) hx hb hts (zcls 4 _ rfl).1 tyX4 tyX4_ok nmX4 hown hK hP hD hS 0 rfl rfl 1 (by decide) (hts _ (zMem_spec (by decide +kernel))) (fun _ h9 => h9) rfl hin0 rfl (by decide +kernel) rfl rfl (Nat.le_of_ble_eq_true rfl) dX4_init_24 (fun H locs hP hD hS => ?_)
  have hP : va_P D vwCl ((h0, .inr (4, [.ref q1, .ref q3, .null, .int 0])) :: ([(q1, .inr (2, [.ref q2, .int 4]))] ++ zmat cI cM q2 r2 (fun _ _ => 0) ++ [(q3, .inr (0, [.ref q4, .ref q5, .ref q6, .int 0, .int 0]))] ++ [(q4, .inl (cI, 40, .inl (fun _ => 0)))] ++ [(q5, .inl (cI, 40, .inl (fun _ => 0)))] ++ [(q6, .inl (cI, 40, .inl (fun _ => 0)))])) H := hP
  have hD : va_D A ((h0, .inr (4, [.ref q1, .ref q3, .null, .int 0])) :: ([(q1, .inr (2, [.ref q2, .int 4]))] ++ zmat cI cM q2 r2 (fun _ _ => 0) ++ [(q3, .inr (0, [.ref q4, .ref q5, .ref q6, .int 0, .int 0]))] ++ [(q4, .inl (cI, 40, .inl (fun _ => 0)))] ++ [(q5, .inl (cI, 40, .inl (fun _ => 0)))] ++ [(q6, .inl (cI, 40, .inl (fun _ => 0)))])) := hD
  refine lv_aload_n hx hb dX4_init_27 rfl (lv_at hl 0 rfl) ?_
  refine va_new (ci := 1) (fs := [.null, .null, .null, .null, .null, .null, .int 0]) (C := RX1) (T := TX1) (N := 7) hx hb hts (zcls 1 _ rfl).1 tyX1 tyX1_ok hown (hts _ (zMem_spec (by decide +kernel))) (hts _ (zMem_spec (by decide +kernel))) (hts _ (zMem_spec (by decide +kernel))) hK hP hD hS hA rfl (fun j hj => by rcases (show j = 0 ∨ j = 1 ∨ j = 2 ∨ j = 3 ∨ j = 4 ∨ j = 5 ∨ j = 6 by omega) with rfl | rfl | rfl | rfl | rfl | rfl | rfl <;> rfl) (Nat.le_of_ble_eq_true rfl) (Nat.le_of_ble_eq_true rfl) dX4_init_28 (fun q7 H hP hD hS => ?_)
  refine W.widen (k := 19) (n := 290) (Nat.le_of_ble_eq_true rfl) (Nat.le_of_ble_eq_true rfl) ?_
  have hP : va_P D vwCl (((h0, .inr (4, [.ref q1, .ref q3, .null, .int 0])) :: ([(q1, .inr (2, [.ref q2, .int 4]))] ++ zmat cI cM q2 r2 (fun _ _ => 0) ++ [(q3, .inr (0, [.ref q4, .ref q5, .ref q6, .int 0, .int 0]))] ++ [(q4, .inl (cI, 40, .inl (fun _ => 0)))] ++ [(q5, .inl (cI, 40, .inl (fun _ => 0)))] ++ [(q6, .inl (cI, 40, .inl (fun _ => 0)))])) ++ [(q7, .inr (1, [.null, .null, .null, .null, .null, .null, .int 0]))]) H := by have h9 := hP; simpa only [List.cons_append, List.nil_append, List.append_assoc] using h9
  have hD : va_D A (((h0, .inr (4, [.ref q1, .ref q3, .null, .int 0])) :: ([(q1, .inr (2, [.ref q2, .int 4]))] ++ zmat cI cM q2 r2 (fun _ _ => 0) ++ [(q3, .inr (0, [.ref q4, .ref q5, .ref q6, .int 0, .int 0]))] ++ [(q4, .inl (cI, 40, .inl (fun _ => 0)))] ++ [(q5, .inl (cI, 40, .inl (fun _ => 0)))] ++ [(q6, .inl (cI, 40, .inl (fun _ => 0)))])) ++ [(q7, .inr (1, [.null, .null, .null, .null, .null, .null, .int 0]))]) := by have h9 := hD; simpa only [List.cons_append, List.nil_append, List.append_assoc] using h9
  refine lv_dup hx hb dX4_init_31 rfl ?_
  refine lv_aload_n hx hb dX4_init_32 rfl (lv_at hl 0 rfl) ?_
  refine va_get (D := D) (C := RX4) (T := TX4) (N := 4) (ref := (TX4 0).1) hx hb hts (zcls 4 _ rfl).1 hown hK hP 0 rfl rfl 0 (by decide) (hts _ (zMem_spec (by decide +kernel))) (fun _ h9 => h9) (v := .ref q1) rfl dX4_init_33 ?_
  refine z_ctor (va_runI (b := q7) (As := [.ref q1]) (rest := [.ref q7, .ref h0]) ⟨hx, hb, hml, hown, hts⟩ (nX1 l D cI cM q7 H.size q1) (cwI 1 hts (zGood (zMem_spec (by decide +kernel))) rfl rfl rfl (hts _ (zMem_spec (by decide +kernel))) (hts (.methodLink RX4 27 yX1_init) (zMem_spec (by decide +kernel))) (hts _ (zMem_spec (by decide +kernel))) rfl (by decide +kernel) ⟨Nat.le_of_ble_eq_true rfl, Nat.le_of_ble_eq_true rfl⟩) (z_preN hK hP hD hO hnw) rfl rfl hl.1 rfl (lv_room (Nat.le_of_ble_eq_true rfl)) dX4_init_36 ⟨Nat.le_of_ble_eq_true rfl, Nat.le_of_ble_eq_true rfl⟩) hP hD hS hA (fun w9 H locs hB hP hD hS => ?_)
  refine W.widen (k := 50) (n := 654) (Nat.le_of_ble_eq_true rfl) (Nat.le_of_ble_eq_true rfl) ?_
  obtain ⟨q8, q9, r9, q10, q11, r11, q12, q13, q14, rfl⟩ := hB
  have hP : va_P D vwCl ((h0, .inr (4, [.ref q1, .ref q3, .null, .int 0])) :: ([(q1, .inr (2, [.ref q2, .int 4]))] ++ zmat cI cM q2 r2 (fun _ _ => 0) ++ [(q3, .inr (0, [.ref q4, .ref q5, .ref q6, .int 0, .int 0]))] ++ [(q4, .inl (cI, 40, .inl (fun _ => 0)))] ++ [(q5, .inl (cI, 40, .inl (fun _ => 0)))] ++ [(q6, .inl (cI, 40, .inl (fun _ => 0)))] ++ [(q7, .inr (1, [.ref q1, .ref q8, .ref q11, .ref q12, .ref q13, .ref q14, .int 0]))] ++ [(q8, .inr (3, [.ref q9, .ref q10, .int 0, .int 0]))] ++ zmat cI cM q9 r9 (fun _ _ => 0) ++ [(q10, .inl (cI, 12, .inl (fun _ => 0)))] ++ zmat cI cM q11 r11 (fun _ _ => 0) ++ [(q12, .inl (cI, 12, .inl (fun _ => 0)))] ++ [(q13, .inl (cI, 12, .inl (fun _ => 0)))] ++ [(q14, .inl (cI, 12, .inl (fun _ => 0)))])) H := by have h9 := hP; simpa only [List.cons_append, List.nil_append, List.append_assoc] using h9
  have hD : va_D A ((h0, .inr (4, [.ref q1, .ref q3, .null, .int 0])) :: ([(q1, .inr (2, [.ref q2, .int 4]))] ++ zmat cI cM q2 r2 (fun _ _ => 0) ++ [(q3, .inr (0, [.ref q4, .ref q5, .ref q6, .int 0, .int 0]))] ++ [(q4, .inl (cI, 40, .inl (fun _ => 0)))] ++ [(q5, .inl (cI, 40, .inl (fun _ => 0)))] ++ [(q6, .inl (cI, 40, .inl (fun _ => 0)))] ++ [(q7, .inr (1, [.ref q1, .ref q8, .ref q11, .ref q12, .ref q13, .ref q14, .int 0]))] ++ [(q8, .inr (3, [.ref q9, .ref q10, .int 0, .int 0]))] ++ zmat cI cM q9 r9 (fun _ _ => 0) ++ [(q10, .inl (cI, 12, .inl (fun _ => 0)))] ++ zmat cI cM q11 r11 (fun _ _ => 0) ++ [(q12, .inl (cI, 12, .inl (fun _ => 0)))] ++ [(q13, .inl (cI, 12, .inl (fun _ => 0)))] ++ [(q14, .inl (cI, 12, .inl (fun _ => 0)))])) := by have h9 := hD; simpa only [List.cons_append, List.nil_append, List.append_assoc] using h9
  refine va_putF (D := D) (ci := 4) (v := .ref q7) (ty := .object "CutTreeKeeper$CutTree") (C := RX4) (T := TX4) (N := 4) (ref := (TX4 2).1) hx hb hts (zcls 4 _ rfl).1 tyX4 tyX4_ok nmX4 hown hK hP hD hS 0 rfl rfl 2 (by decide) (hts _ (zMem_spec (by decide +kernel))) (fun _ h9 => h9) rfl hin0 rfl (by decide +kernel) rfl rfl (Nat.le_of_ble_eq_true rfl) dX4_init_39 (fun H locs hP hD hS => ?_)
  have hP : va_P D vwCl ((h0, .inr (4, [.ref q1, .ref q3, .ref q7, .int 0])) :: ([(q1, .inr (2, [.ref q2, .int 4]))] ++ zmat cI cM q2 r2 (fun _ _ => 0) ++ [(q3, .inr (0, [.ref q4, .ref q5, .ref q6, .int 0, .int 0]))] ++ [(q4, .inl (cI, 40, .inl (fun _ => 0)))] ++ [(q5, .inl (cI, 40, .inl (fun _ => 0)))] ++ [(q6, .inl (cI, 40, .inl (fun _ => 0)))] ++ [(q7, .inr (1, [.ref q1, .ref q8, .ref q11, .ref q12, .ref q13, .ref q14, .int 0]))] ++ [(q8, .inr (3, [.ref q9, .ref q10, .int 0, .int 0]))] ++ zmat cI cM q9 r9 (fun _ _ => 0) ++ [(q10, .inl (cI, 12, .inl (fun _ => 0)))] ++ zmat cI cM q11 r11 (fun _ _ => 0) ++ [(q12, .inl (cI, 12, .inl (fun _ => 0)))] ++ [(q13, .inl (cI, 12, .inl (fun _ => 0)))] ++ [(q14, .inl (cI, 12, .inl (fun _ => 0)))])) H := hP
  have hD : va_D A ((h0, .inr (4, [.ref q1, .ref q3, .ref q7, .int 0])) :: ([(q1, .inr (2, [.ref q2, .int 4]))] ++ zmat cI cM q2 r2 (fun _ _ => 0) ++ [(q3, .inr (0, [.ref q4, .ref q5, .ref q6, .int 0, .int 0]))] ++ [(q4, .inl (cI, 40, .inl (fun _ => 0)))] ++ [(q5, .inl (cI, 40, .inl (fun _ => 0)))] ++ [(q6, .inl (cI, 40, .inl (fun _ => 0)))] ++ [(q7, .inr (1, [.ref q1, .ref q8, .ref q11, .ref q12, .ref q13, .ref q14, .int 0]))] ++ [(q8, .inr (3, [.ref q9, .ref q10, .int 0, .int 0]))] ++ zmat cI cM q9 r9 (fun _ _ => 0) ++ [(q10, .inl (cI, 12, .inl (fun _ => 0)))] ++ zmat cI cM q11 r11 (fun _ _ => 0) ++ [(q12, .inl (cI, 12, .inl (fun _ => 0)))] ++ [(q13, .inl (cI, 12, .inl (fun _ => 0)))] ++ [(q14, .inl (cI, 12, .inl (fun _ => 0)))])) := hD
  refine lv_aload_n hx hb dX4_init_42 rfl (lv_at hl 0 rfl) ?_
  refine lv_iconst (v := 0) hx hb dX4_init_43 (by decide) ?_
  refine va_put (D := D) (ci := 4) (v := .int 0) (ty := .int) (C := RX4) (T := TX4) (N := 4) (ref := (TX4 3).1) hx hb hts (zcls 4 _ rfl).1 tyX4 tyX4_ok nmX4 hown hK hP hD hS 0 rfl rfl 3 (by decide) (hts _ (zMem_spec (by decide +kernel))) (fun _ h9 => h9) rfl (by decide +kernel) rfl rfl (Nat.le_of_ble_eq_true rfl) dX4_init_44 (fun H locs hP hD hS => ?_)
  have hP : va_P D vwCl ((h0, .inr (4, [.ref q1, .ref q3, .ref q7, .int 0])) :: ([(q1, .inr (2, [.ref q2, .int 4]))] ++ zmat cI cM q2 r2 (fun _ _ => 0) ++ [(q3, .inr (0, [.ref q4, .ref q5, .ref q6, .int 0, .int 0]))] ++ [(q4, .inl (cI, 40, .inl (fun _ => 0)))] ++ [(q5, .inl (cI, 40, .inl (fun _ => 0)))] ++ [(q6, .inl (cI, 40, .inl (fun _ => 0)))] ++ [(q7, .inr (1, [.ref q1, .ref q8, .ref q11, .ref q12, .ref q13, .ref q14, .int 0]))] ++ [(q8, .inr (3, [.ref q9, .ref q10, .int 0, .int 0]))] ++ zmat cI cM q9 r9 (fun _ _ => 0) ++ [(q10, .inl (cI, 12, .inl (fun _ => 0)))] ++ zmat cI cM q11 r11 (fun _ _ => 0) ++ [(q12, .inl (cI, 12, .inl (fun _ => 0)))] ++ [(q13, .inl (cI, 12, .inl (fun _ => 0)))] ++ [(q14, .inl (cI, 12, .inl (fun _ => 0)))])) H := hP
  have hD : va_D A ((h0, .inr (4, [.ref q1, .ref q3, .ref q7, .int 0])) :: ([(q1, .inr (2, [.ref q2, .int 4]))] ++ zmat cI cM q2 r2 (fun _ _ => 0) ++ [(q3, .inr (0, [.ref q4, .ref q5, .ref q6, .int 0, .int 0]))] ++ [(q4, .inl (cI, 40, .inl (fun _ => 0)))] ++ [(q5, .inl (cI, 40, .inl (fun _ => 0)))] ++ [(q6, .inl (cI, 40, .inl (fun _ => 0)))] ++ [(q7, .inr (1, [.ref q1, .ref q8, .ref q11, .ref q12, .ref q13, .ref q14, .int 0]))] ++ [(q8, .inr (3, [.ref q9, .ref q10, .int 0, .int 0]))] ++ zmat cI cM q9 r9 (fun _ _ => 0) ++ [(q10, .inl (cI, 12, .inl (fun _ => 0)))] ++ zmat cI cM q11 r11 (fun _ _ => 0) ++ [(q12, .inl (cI, 12, .inl (fun _ => 0)))] ++ [(q13, .inl (cI, 12, .inl (fun _ => 0)))] ++ [(q14, .inl (cI, 12, .inl (fun _ => 0)))])) := hD
  exact W.vret hx hb hr (fun t ht hW => ⟨⟨(), rfl, trivial, _, ⟨q1, q2, r2, q3, q4, q5, q6, q7, q8, q9, r9, q10, q11, r11, q12, q13, q14, rfl⟩, by rw [ht]; exact hP, by rw [hAe]; exact hD⟩, hS.F ht⟩) hS.2.2 dX4_init_47
def BX5 (cI cM : ClassId) (h0 : Nat) : va_W → Prop := fun ws => ∃ q1 : Nat, ∃ q2 : Nat, ∃ q3 : Nat, ∃ q4 : Nat, ∃ q5 : Nat, ∃ q6 : Nat, ∃ q7 : Nat, ∃ q8 : Nat, ws = (h0, .inr (5, [.int 4, .ref q1, .int 0, .ref q2, .ref q3, .ref q4, .int 0, .int 0, .ref q5, .ref q6, .ref q7, .ref q8, .int 0, .int 0])) :: ([(q1, .inl (cI, 144, .inl (fun _ => 0)))] ++ [(q2, .inl (cI, 40, .inl (fun _ => 0)))] ++ [(q3, .inl (cI, 40, .inl (fun _ => 0)))] ++ [(q4, .inl (cI, 40, .inl (fun _ => 0)))] ++ [(q5, .inl (cI, 12, .inl (fun _ => 0)))] ++ [(q6, .inl (cI, 12, .inl (fun _ => 0)))] ++ [(q7, .inl (cI, 144, .inl (fun _ => 0)))] ++ [(q8, .inl (cI, 4096, .inl (fun _ => 0)))])
set_option maxRecDepth 100000 in
set_option maxHeartbeats 4000000 in
theorem nX5 (l : Launch) (D : va_G) (cI cM : ClassId) (h0 sz : Nat) : zNMet l yX5_init cX5_init 1 { frames := 1, cells := 8, slots := 4528, locals := 12 } D cI cM [.ref h0] (h0, .inr (5, [.int 0, .null, .int 0, .null, .null, .null, .int 0, .int 0, .null, .null, .null, .null, .int 0, .int 0])) (BX5 cI cM h0) sz 8 4528 := by
  refine Met.ofW (cc := cX5_init) (maxL := 1) (ret := none) (by decide) rfl ?_
  intro p e s m args below meth c s₁ B hml hv
  obtain ⟨rfl, hsz, hP, hK, hD0, hO, hnw⟩ := hv
  have hx := B.exec
  have hb := B.bytes
  have hr := B.returns
  have hts0 := atoms_spec (ws := .code yX5_init cX5_init 1 none :: zAll) B.pre
  have hts : ∀ w ∈ zAll, w.before _ s = true := fun w hw => hts0 w (List.mem_cons_of_mem _ hw)
  have hown : s.vm.findClass RX5 = some m.cls := findClass_of_methodNamed B.named
  have hlocks := B.notSynchronized
  have hin0 : meth.name = "<init>" := (name_of_methodNamed B.named B.method).1
  subst hsz
  have hD := hD0.self (sz := s.heap.size)
  generalize hAe : va_A [(h0, .inr (5, [.int 0, .null, .int 0, .null, .null, .null, .int 0, .int 0, .null, .null, .null, .null, .int 0, .int 0]))] s.heap.size = A at hD ⊢
  have hA : ∀ q : Nat, s.heap.size ≤ q → A q := fun q h => by rw [← hAe]; exact Or.inr h
  have hS : va_S A s.heap s.heap [] := va_S.rf
  have hl := lv_entry ([.ref h0]) (n := 1) (Nat.le_of_ble_eq_true rfl)
  rw [lg_entry_eq]
  generalize (lg_sl ([.ref h0]) ++ List.replicate (1 - (lg_sl ([.ref h0])).length) Slot.unset).toArray = ls at hl ⊢
  have hl : lv_has ls 1 [(0, .ref h0)] := hl
  refine lv_aload_n hx hb dX5_init_0 rfl (lv_at hl 0 rfl) ?_
  refine W.objInit hx hb hown (idx := 1) (hts _ (zMem_spec (by decide +kernel))) (hts _ (zMem_spec (by decide +kernel))) (hts _ (zMem_spec (by decide +kernel))) rfl (by rw [hml]; exact hl.1) rfl dX5_init_1 (Nat.le_of_ble_eq_true rfl) (Nat.le_of_ble_eq_true rfl) ?_
  refine W.eq (g2 := F0 m 4 ls []) rfl ?_
  refine lv_aload_n hx hb dX5_init_4 rfl (lv_at hl 0 rfl) ?_
  refine lv_sipush (v := 144) hx hb dX5_init_5 (by decide) ?_
  refine z_newa (N := 144) hx hb (hts _ (zMem_spec (by decide +kernel))) hK hP hD hS hA (by decide) (by decide) (by decide) (Nat.le_of_ble_eq_true rfl) (Nat.le_of_ble_eq_true rfl) dX5_init_8 (fun q1 H hP hD hS => ?_)
  refine W.widen (k := 1) (n := 144) (Nat.le_of_ble_eq_true rfl) (Nat.le_of_ble_eq_true rfl) ?_
  have hP : va_P D vwCl ((h0, .inr (5, [.int 0, .null, .int 0, .null, .null, .null, .int 0, .int 0, .null, .null, .null, .null, .int 0, .int 0])) :: ([(q1, .inl (cI, 144, .inl (fun _ => 0)))])) H := hP
  have hD : va_D A ((h0, .inr (5, [.int 0, .null, .int 0, .null, .null, .null, .int 0, .int 0, .null, .null, .null, .null, .int 0, .int 0])) :: ([(q1, .inl (cI, 144, .inl (fun _ => 0)))])) := hD
  refine va_putF (D := D) (ci := 5) (v := .ref q1) (ty := .array .int) (C := RX5) (T := TX5) (N := 14) (ref := (TX5 1).1) hx hb hts (zcls 5 _ rfl).1 tyX5 tyX5_ok nmX5 hown hK hP hD hS 0 rfl rfl 1 (by decide) (hts _ (zMem_spec (by decide +kernel))) (fun _ h9 => h9) rfl hin0 rfl (by decide +kernel) rfl rfl (Nat.le_of_ble_eq_true rfl) dX5_init_10 (fun H locs hP hD hS => ?_)
  have hP : va_P D vwCl ((h0, .inr (5, [.int 0, .ref q1, .int 0, .null, .null, .null, .int 0, .int 0, .null, .null, .null, .null, .int 0, .int 0])) :: ([(q1, .inl (cI, 144, .inl (fun _ => 0)))])) H := hP
  have hD : va_D A ((h0, .inr (5, [.int 0, .ref q1, .int 0, .null, .null, .null, .int 0, .int 0, .null, .null, .null, .null, .int 0, .int 0])) :: ([(q1, .inl (cI, 144, .inl (fun _ => 0)))])) := hD
  refine lv_aload_n hx hb dX5_init_13 rfl (lv_at hl 0 rfl) ?_
  refine lv_bipush (v := 40) hx hb dX5_init_14 (by decide) ?_
  refine z_newa (N := 40) hx hb (hts _ (zMem_spec (by decide +kernel))) hK hP hD hS hA (by decide) (by decide) (by decide) (Nat.le_of_ble_eq_true rfl) (Nat.le_of_ble_eq_true rfl) dX5_init_16 (fun q2 H hP hD hS => ?_)
  refine W.widen (k := 2) (n := 184) (Nat.le_of_ble_eq_true rfl) (Nat.le_of_ble_eq_true rfl) ?_
  have hP : va_P D vwCl ((h0, .inr (5, [.int 0, .ref q1, .int 0, .null, .null, .null, .int 0, .int 0, .null, .null, .null, .null, .int 0, .int 0])) :: ([(q1, .inl (cI, 144, .inl (fun _ => 0)))] ++ [(q2, .inl (cI, 40, .inl (fun _ => 0)))])) H := hP
  have hD : va_D A ((h0, .inr (5, [.int 0, .ref q1, .int 0, .null, .null, .null, .int 0, .int 0, .null, .null, .null, .null, .int 0, .int 0])) :: ([(q1, .inl (cI, 144, .inl (fun _ => 0)))] ++ [(q2, .inl (cI, 40, .inl (fun _ => 0)))])) := hD
  refine va_putF (D := D) (ci := 5) (v := .ref q2) (ty := .array .int) (C := RX5) (T := TX5) (N := 14) (ref := (TX5 3).1) hx hb hts (zcls 5 _ rfl).1 tyX5 tyX5_ok nmX5 hown hK hP hD hS 0 rfl rfl 3 (by decide) (hts _ (zMem_spec (by decide +kernel))) (fun _ h9 => h9) rfl hin0 rfl (by decide +kernel) rfl rfl (Nat.le_of_ble_eq_true rfl) dX5_init_18 (fun H locs hP hD hS => ?_)
  have hP : va_P D vwCl ((h0, .inr (5, [.int 0, .ref q1, .int 0, .ref q2, .null, .null, .int 0, .int 0, .null, .null, .null, .null, .int 0, .int 0])) :: ([(q1, .inl (cI, 144, .inl (fun _ => 0)))] ++ [(q2, .inl (cI, 40, .inl (fun _ => 0)))])) H := hP
  have hD : va_D A ((h0, .inr (5, [.int 0, .ref q1, .int 0, .ref q2, .null, .null, .int 0, .int 0, .null, .null, .null, .null, .int 0, .int 0])) :: ([(q1, .inl (cI, 144, .inl (fun _ => 0)))] ++ [(q2, .inl (cI, 40, .inl (fun _ => 0)))])) := hD
  refine lv_aload_n hx hb dX5_init_21 rfl (lv_at hl 0 rfl) ?_
  refine lv_bipush (v := 40) hx hb dX5_init_22 (by decide) ?_
  refine z_newa (N := 40) hx hb (hts _ (zMem_spec (by decide +kernel))) hK hP hD hS hA (by decide) (by decide) (by decide) (Nat.le_of_ble_eq_true rfl) (Nat.le_of_ble_eq_true rfl) dX5_init_24 (fun q3 H hP hD hS => ?_)
  refine W.widen (k := 3) (n := 224) (Nat.le_of_ble_eq_true rfl) (Nat.le_of_ble_eq_true rfl) ?_
  have hP : va_P D vwCl ((h0, .inr (5, [.int 0, .ref q1, .int 0, .ref q2, .null, .null, .int 0, .int 0, .null, .null, .null, .null, .int 0, .int 0])) :: ([(q1, .inl (cI, 144, .inl (fun _ => 0)))] ++ [(q2, .inl (cI, 40, .inl (fun _ => 0)))] ++ [(q3, .inl (cI, 40, .inl (fun _ => 0)))])) H := hP
  have hD : va_D A ((h0, .inr (5, [.int 0, .ref q1, .int 0, .ref q2, .null, .null, .int 0, .int 0, .null, .null, .null, .null, .int 0, .int 0])) :: ([(q1, .inl (cI, 144, .inl (fun _ => 0)))] ++ [(q2, .inl (cI, 40, .inl (fun _ => 0)))] ++ [(q3, .inl (cI, 40, .inl (fun _ => 0)))])) := hD
  refine va_putF (D := D) (ci := 5) (v := .ref q3) (ty := .array .int) (C := RX5) (T := TX5) (N := 14) (ref := (TX5 4).1) hx hb hts (zcls 5 _ rfl).1 tyX5 tyX5_ok nmX5 hown hK hP hD hS 0 rfl rfl 4 (by decide) (hts _ (zMem_spec (by decide +kernel))) (fun _ h9 => h9) rfl hin0 rfl (by decide +kernel) rfl rfl (Nat.le_of_ble_eq_true rfl) dX5_init_26 (fun H locs hP hD hS => ?_)
  have hP : va_P D vwCl ((h0, .inr (5, [.int 0, .ref q1, .int 0, .ref q2, .ref q3, .null, .int 0, .int 0, .null, .null, .null, .null, .int 0, .int 0])) :: ([(q1, .inl (cI, 144, .inl (fun _ => 0)))] ++ [(q2, .inl (cI, 40, .inl (fun _ => 0)))] ++ [(q3, .inl (cI, 40, .inl (fun _ => 0)))])) H := hP
  have hD : va_D A ((h0, .inr (5, [.int 0, .ref q1, .int 0, .ref q2, .ref q3, .null, .int 0, .int 0, .null, .null, .null, .null, .int 0, .int 0])) :: ([(q1, .inl (cI, 144, .inl (fun _ => 0)))] ++ [(q2, .inl (cI, 40, .inl (fun _ => 0)))] ++ [(q3, .inl (cI, 40, .inl (fun _ => 0)))])) := hD
  refine lv_aload_n hx hb dX5_init_29 rfl (lv_at hl 0 rfl) ?_
  refine lv_bipush (v := 40) hx hb dX5_init_30 (by decide) ?_
  refine z_newa (N := 40) hx hb (hts _ (zMem_spec (by decide +kernel))) hK hP hD hS hA (by decide) (by decide) (by decide) (Nat.le_of_ble_eq_true rfl) (Nat.le_of_ble_eq_true rfl) dX5_init_32 (fun q4 H hP hD hS => ?_)
  refine W.widen (k := 4) (n := 264) (Nat.le_of_ble_eq_true rfl) (Nat.le_of_ble_eq_true rfl) ?_
  have hP : va_P D vwCl ((h0, .inr (5, [.int 0, .ref q1, .int 0, .ref q2, .ref q3, .null, .int 0, .int 0, .null, .null, .null, .null, .int 0, .int 0])) :: ([(q1, .inl (cI, 144, .inl (fun _ => 0)))] ++ [(q2, .inl (cI, 40, .inl (fun _ => 0)))] ++ [(q3, .inl (cI, 40, .inl (fun _ => 0)))] ++ [(q4, .inl (cI, 40, .inl (fun _ => 0)))])) H := hP
  have hD : va_D A ((h0, .inr (5, [.int 0, .ref q1, .int 0, .ref q2, .ref q3, .null, .int 0, .int 0, .null, .null, .null, .null, .int 0, .int 0])) :: ([(q1, .inl (cI, 144, .inl (fun _ => 0)))] ++ [(q2, .inl (cI, 40, .inl (fun _ => 0)))] ++ [(q3, .inl (cI, 40, .inl (fun _ => 0)))] ++ [(q4, .inl (cI, 40, .inl (fun _ => 0)))])) := hD
  refine va_putF (D := D) (ci := 5) (v := .ref q4) (ty := .array .int) (C := RX5) (T := TX5) (N := 14) (ref := (TX5 5).1) hx hb hts (zcls 5 _ rfl).1 tyX5 tyX5_ok nmX5 hown hK hP hD hS 0 rfl rfl 5 (by decide) (hts _ (zMem_spec (by decide +kernel))) (fun _ h9 => h9) rfl hin0 rfl (by decide +kernel) rfl rfl (Nat.le_of_ble_eq_true rfl) dX5_init_34 (fun H locs hP hD hS => ?_)
  have hP : va_P D vwCl ((h0, .inr (5, [.int 0, .ref q1, .int 0, .ref q2, .ref q3, .ref q4, .int 0, .int 0, .null, .null, .null, .null, .int 0, .int 0])) :: ([(q1, .inl (cI, 144, .inl (fun _ => 0)))] ++ [(q2, .inl (cI, 40, .inl (fun _ => 0)))] ++ [(q3, .inl (cI, 40, .inl (fun _ => 0)))] ++ [(q4, .inl (cI, 40, .inl (fun _ => 0)))])) H := hP
  have hD : va_D A ((h0, .inr (5, [.int 0, .ref q1, .int 0, .ref q2, .ref q3, .ref q4, .int 0, .int 0, .null, .null, .null, .null, .int 0, .int 0])) :: ([(q1, .inl (cI, 144, .inl (fun _ => 0)))] ++ [(q2, .inl (cI, 40, .inl (fun _ => 0)))] ++ [(q3, .inl (cI, 40, .inl (fun _ => 0)))] ++ [(q4, .inl (cI, 40, .inl (fun _ => 0)))])) := hD
  refine lv_aload_n hx hb dX5_init_37 rfl (lv_at hl 0 rfl) ?_
  refine lv_bipush (v := 12) hx hb dX5_init_38 (by decide) ?_
  refine z_newa (N := 12) hx hb (hts _ (zMem_spec (by decide +kernel))) hK hP hD hS hA (by decide) (by decide) (by decide) (Nat.le_of_ble_eq_true rfl) (Nat.le_of_ble_eq_true rfl) dX5_init_40 (fun q5 H hP hD hS => ?_)
  refine W.widen (k := 5) (n := 276) (Nat.le_of_ble_eq_true rfl) (Nat.le_of_ble_eq_true rfl) ?_
  have hP : va_P D vwCl ((h0, .inr (5, [.int 0, .ref q1, .int 0, .ref q2, .ref q3, .ref q4, .int 0, .int 0, .null, .null, .null, .null, .int 0, .int 0])) :: ([(q1, .inl (cI, 144, .inl (fun _ => 0)))] ++ [(q2, .inl (cI, 40, .inl (fun _ => 0)))] ++ [(q3, .inl (cI, 40, .inl (fun _ => 0)))] ++ [(q4, .inl (cI, 40, .inl (fun _ => 0)))] ++ [(q5, .inl (cI, 12, .inl (fun _ => 0)))])) H := hP
  have hD : va_D A ((h0, .inr (5, [.int 0, .ref q1, .int 0, .ref q2, .ref q3, .ref q4, .int 0, .int 0, .null, .null, .null, .null, .int 0, .int 0])) :: ([(q1, .inl (cI, 144, .inl (fun _ => 0)))] ++ [(q2, .inl (cI, 40, .inl (fun _ => 0)))] ++ [(q3, .inl (cI, 40, .inl (fun _ => 0)))] ++ [(q4, .inl (cI, 40, .inl (fun _ => 0)))] ++ [(q5, .inl (cI, 12, .inl (fun _ => 0)))])) := hD
  refine va_putF (D := D) (ci := 5) (v := .ref q5) (ty := .array .int) (C := RX5) (T := TX5) (N := 14) (ref := (TX5 8).1) hx hb hts (zcls 5 _ rfl).1 tyX5 tyX5_ok nmX5 hown hK hP hD hS 0 rfl rfl 8 (by decide) (hts _ (zMem_spec (by decide +kernel))) (fun _ h9 => h9) rfl hin0 rfl (by decide +kernel) rfl rfl (Nat.le_of_ble_eq_true rfl) dX5_init_42 (fun H locs hP hD hS => ?_)
  have hP : va_P D vwCl ((h0, .inr (5, [.int 0, .ref q1, .int 0, .ref q2, .ref q3, .ref q4, .int 0, .int 0, .ref q5, .null, .null, .null, .int 0, .int 0])) :: ([(q1, .inl (cI, 144, .inl (fun _ => 0)))] ++ [(q2, .inl (cI, 40, .inl (fun _ => 0)))] ++ [(q3, .inl (cI, 40, .inl (fun _ => 0)))] ++ [(q4, .inl (cI, 40, .inl (fun _ => 0)))] ++ [(q5, .inl (cI, 12, .inl (fun _ => 0)))])) H := hP
  have hD : va_D A ((h0, .inr (5, [.int 0, .ref q1, .int 0, .ref q2, .ref q3, .ref q4, .int 0, .int 0, .ref q5, .null, .null, .null, .int 0, .int 0])) :: ([(q1, .inl (cI, 144, .inl (fun _ => 0)))] ++ [(q2, .inl (cI, 40, .inl (fun _ => 0)))] ++ [(q3, .inl (cI, 40, .inl (fun _ => 0)))] ++ [(q4, .inl (cI, 40, .inl (fun _ => 0)))] ++ [(q5, .inl (cI, 12, .inl (fun _ => 0)))])) := hD
  refine lv_aload_n hx hb dX5_init_45 rfl (lv_at hl 0 rfl) ?_
  refine lv_bipush (v := 12) hx hb dX5_init_46 (by decide) ?_
  refine z_newa (N := 12) hx hb (hts _ (zMem_spec (by decide +kernel))) hK hP hD hS hA (by decide) (by decide) (by decide) (Nat.le_of_ble_eq_true rfl) (Nat.le_of_ble_eq_true rfl) dX5_init_48 (fun q6 H hP hD hS => ?_)
  refine W.widen (k := 6) (n := 288) (Nat.le_of_ble_eq_true rfl) (Nat.le_of_ble_eq_true rfl) ?_
  have hP : va_P D vwCl ((h0, .inr (5, [.int 0, .ref q1, .int 0, .ref q2, .ref q3, .ref q4, .int 0, .int 0, .ref q5, .null, .null, .null, .int 0, .int 0])) :: ([(q1, .inl (cI, 144, .inl (fun _ => 0)))] ++ [(q2, .inl (cI, 40, .inl (fun _ => 0)))] ++ [(q3, .inl (cI, 40, .inl (fun _ => 0)))] ++ [(q4, .inl (cI, 40, .inl (fun _ => 0)))] ++ [(q5, .inl (cI, 12, .inl (fun _ => 0)))] ++ [(q6, .inl (cI, 12, .inl (fun _ => 0)))])) H := hP
  have hD : va_D A ((h0, .inr (5, [.int 0, .ref q1, .int 0, .ref q2, .ref q3, .ref q4, .int 0, .int 0, .ref q5, .null, .null, .null, .int 0, .int 0])) :: ([(q1, .inl (cI, 144, .inl (fun _ => 0)))] ++ [(q2, .inl (cI, 40, .inl (fun _ => 0)))] ++ [(q3, .inl (cI, 40, .inl (fun _ => 0)))] ++ [(q4, .inl (cI, 40, .inl (fun _ => 0)))] ++ [(q5, .inl (cI, 12, .inl (fun _ => 0)))] ++ [(q6, .inl (cI, 12, .inl (fun _ => 0)))])) := hD
  refine va_putF (D := D) (ci := 5) (v := .ref q6) (ty := .array .int) (C := RX5) (T := TX5) (N := 14) (ref := (TX5 9).1) hx hb hts (zcls 5 _ rfl).1 tyX5 tyX5_ok nmX5 hown hK hP hD hS 0 rfl rfl 9 (by decide) (hts _ (zMem_spec (by decide +kernel))) (fun _ h9 => h9) rfl hin0 rfl (by decide +kernel) rfl rfl (Nat.le_of_ble_eq_true rfl) dX5_init_50 (fun H locs hP hD hS => ?_)
  have hP : va_P D vwCl ((h0, .inr (5, [.int 0, .ref q1, .int 0, .ref q2, .ref q3, .ref q4, .int 0, .int 0, .ref q5, .ref q6, .null, .null, .int 0, .int 0])) :: ([(q1, .inl (cI, 144, .inl (fun _ => 0)))] ++ [(q2, .inl (cI, 40, .inl (fun _ => 0)))] ++ [(q3, .inl (cI, 40, .inl (fun _ => 0)))] ++ [(q4, .inl (cI, 40, .inl (fun _ => 0)))] ++ [(q5, .inl (cI, 12, .inl (fun _ => 0)))] ++ [(q6, .inl (cI, 12, .inl (fun _ => 0)))])) H := hP
  have hD : va_D A ((h0, .inr (5, [.int 0, .ref q1, .int 0, .ref q2, .ref q3, .ref q4, .int 0, .int 0, .ref q5, .ref q6, .null, .null, .int 0, .int 0])) :: ([(q1, .inl (cI, 144, .inl (fun _ => 0)))] ++ [(q2, .inl (cI, 40, .inl (fun _ => 0)))] ++ [(q3, .inl (cI, 40, .inl (fun _ => 0)))] ++ [(q4, .inl (cI, 40, .inl (fun _ => 0)))] ++ [(q5, .inl (cI, 12, .inl (fun _ => 0)))] ++ [(q6, .inl (cI, 12, .inl (fun _ => 0)))])) := hD
  refine lv_aload_n hx hb dX5_init_53 rfl (lv_at hl 0 rfl) ?_
  refine lv_sipush (v := 144) hx hb dX5_init_54 (by decide) ?_
  refine z_newa (N := 144) hx hb (hts _ (zMem_spec (by decide +kernel))) hK hP hD hS hA (by decide) (by decide) (by decide) (Nat.le_of_ble_eq_true rfl) (Nat.le_of_ble_eq_true rfl) dX5_init_57 (fun q7 H hP hD hS => ?_)
  refine W.widen (k := 7) (n := 432) (Nat.le_of_ble_eq_true rfl) (Nat.le_of_ble_eq_true rfl) ?_
  have hP : va_P D vwCl ((h0, .inr (5, [.int 0, .ref q1, .int 0, .ref q2, .ref q3, .ref q4, .int 0, .int 0, .ref q5, .ref q6, .null, .null, .int 0, .int 0])) :: ([(q1, .inl (cI, 144, .inl (fun _ => 0)))] ++ [(q2, .inl (cI, 40, .inl (fun _ => 0)))] ++ [(q3, .inl (cI, 40, .inl (fun _ => 0)))] ++ [(q4, .inl (cI, 40, .inl (fun _ => 0)))] ++ [(q5, .inl (cI, 12, .inl (fun _ => 0)))] ++ [(q6, .inl (cI, 12, .inl (fun _ => 0)))] ++ [(q7, .inl (cI, 144, .inl (fun _ => 0)))])) H := hP
  have hD : va_D A ((h0, .inr (5, [.int 0, .ref q1, .int 0, .ref q2, .ref q3, .ref q4, .int 0, .int 0, .ref q5, .ref q6, .null, .null, .int 0, .int 0])) :: ([(q1, .inl (cI, 144, .inl (fun _ => 0)))] ++ [(q2, .inl (cI, 40, .inl (fun _ => 0)))] ++ [(q3, .inl (cI, 40, .inl (fun _ => 0)))] ++ [(q4, .inl (cI, 40, .inl (fun _ => 0)))] ++ [(q5, .inl (cI, 12, .inl (fun _ => 0)))] ++ [(q6, .inl (cI, 12, .inl (fun _ => 0)))] ++ [(q7, .inl (cI, 144, .inl (fun _ => 0)))])) := hD
  refine va_putF (D := D) (ci := 5) (v := .ref q7) (ty := .array .int) (C := RX5) (T := TX5) (N := 14) (ref := (TX5 10).1) hx hb hts (zcls 5 _ rfl).1 tyX5 tyX5_ok nmX5 hown hK hP hD hS 0 rfl rfl 10 (by decide) (hts _ (zMem_spec (by decide +kernel))) (fun _ h9 => h9) rfl hin0 rfl (by decide +kernel) rfl rfl (Nat.le_of_ble_eq_true rfl) dX5_init_59 (fun H locs hP hD hS => ?_)
  have hP : va_P D vwCl ((h0, .inr (5, [.int 0, .ref q1, .int 0, .ref q2, .ref q3, .ref q4, .int 0, .int 0, .ref q5, .ref q6, .ref q7, .null, .int 0, .int 0])) :: ([(q1, .inl (cI, 144, .inl (fun _ => 0)))] ++ [(q2, .inl (cI, 40, .inl (fun _ => 0)))] ++ [(q3, .inl (cI, 40, .inl (fun _ => 0)))] ++ [(q4, .inl (cI, 40, .inl (fun _ => 0)))] ++ [(q5, .inl (cI, 12, .inl (fun _ => 0)))] ++ [(q6, .inl (cI, 12, .inl (fun _ => 0)))] ++ [(q7, .inl (cI, 144, .inl (fun _ => 0)))])) H := hP
  have hD : va_D A ((h0, .inr (5, [.int 0, .ref q1, .int 0, .ref q2, .ref q3, .ref q4, .int 0, .int 0, .ref q5, .ref q6, .ref q7, .null, .int 0, .int 0])) :: ([(q1, .inl (cI, 144, .inl (fun _ => 0)))] ++ [(q2, .inl (cI, 40, .inl (fun _ => 0)))] ++ [(q3, .inl (cI, 40, .inl (fun _ => 0)))] ++ [(q4, .inl (cI, 40, .inl (fun _ => 0)))] ++ [(q5, .inl (cI, 12, .inl (fun _ => 0)))] ++ [(q6, .inl (cI, 12, .inl (fun _ => 0)))] ++ [(q7, .inl (cI, 144, .inl (fun _ => 0)))])) := hD
  refine lv_aload_n hx hb dX5_init_62 rfl (lv_at hl 0 rfl) ?_
  refine lv_sipush (v := 4096) hx hb dX5_init_63 (by decide) ?_
  refine z_newa (N := 4096) hx hb (hts _ (zMem_spec (by decide +kernel))) hK hP hD hS hA (by decide) (by decide) (by decide) (Nat.le_of_ble_eq_true rfl) (Nat.le_of_ble_eq_true rfl) dX5_init_66 (fun q8 H hP hD hS => ?_)
  refine W.widen (k := 8) (n := 4528) (Nat.le_of_ble_eq_true rfl) (Nat.le_of_ble_eq_true rfl) ?_
  have hP : va_P D vwCl ((h0, .inr (5, [.int 0, .ref q1, .int 0, .ref q2, .ref q3, .ref q4, .int 0, .int 0, .ref q5, .ref q6, .ref q7, .null, .int 0, .int 0])) :: ([(q1, .inl (cI, 144, .inl (fun _ => 0)))] ++ [(q2, .inl (cI, 40, .inl (fun _ => 0)))] ++ [(q3, .inl (cI, 40, .inl (fun _ => 0)))] ++ [(q4, .inl (cI, 40, .inl (fun _ => 0)))] ++ [(q5, .inl (cI, 12, .inl (fun _ => 0)))] ++ [(q6, .inl (cI, 12, .inl (fun _ => 0)))] ++ [(q7, .inl (cI, 144, .inl (fun _ => 0)))] ++ [(q8, .inl (cI, 4096, .inl (fun _ => 0)))])) H := hP
  have hD : va_D A ((h0, .inr (5, [.int 0, .ref q1, .int 0, .ref q2, .ref q3, .ref q4, .int 0, .int 0, .ref q5, .ref q6, .ref q7, .null, .int 0, .int 0])) :: ([(q1, .inl (cI, 144, .inl (fun _ => 0)))] ++ [(q2, .inl (cI, 40, .inl (fun _ => 0)))] ++ [(q3, .inl (cI, 40, .inl (fun _ => 0)))] ++ [(q4, .inl (cI, 40, .inl (fun _ => 0)))] ++ [(q5, .inl (cI, 12, .inl (fun _ => 0)))] ++ [(q6, .inl (cI, 12, .inl (fun _ => 0)))] ++ [(q7, .inl (cI, 144, .inl (fun _ => 0)))] ++ [(q8, .inl (cI, 4096, .inl (fun _ => 0)))])) := hD
  refine va_putF (D := D) (ci := 5) (v := .ref q8) (ty := .array .int) (C := RX5) (T := TX5) (N := 14) (ref := (TX5 11).1) hx hb hts (zcls 5 _ rfl).1 tyX5 tyX5_ok nmX5 hown hK hP hD hS 0 rfl rfl 11 (by decide) (hts _ (zMem_spec (by decide +kernel))) (fun _ h9 => h9) rfl hin0 rfl (by decide +kernel) rfl rfl (Nat.le_of_ble_eq_true rfl) dX5_init_68 (fun H locs hP hD hS => ?_)
  have hP : va_P D vwCl ((h0, .inr (5, [.int 0, .ref q1, .int 0, .ref q2, .ref q3, .ref q4, .int 0, .int 0, .ref q5, .ref q6, .ref q7, .ref q8, .int 0, .int 0])) :: ([(q1, .inl (cI, 144, .inl (fun _ => 0)))] ++ [(q2, .inl (cI, 40, .inl (fun _ => 0)))] ++ [(q3, .inl (cI, 40, .inl (fun _ => 0)))] ++ [(q4, .inl (cI, 40, .inl (fun _ => 0)))] ++ [(q5, .inl (cI, 12, .inl (fun _ => 0)))] ++ [(q6, .inl (cI, 12, .inl (fun _ => 0)))] ++ [(q7, .inl (cI, 144, .inl (fun _ => 0)))] ++ [(q8, .inl (cI, 4096, .inl (fun _ => 0)))])) H := hP
  have hD : va_D A ((h0, .inr (5, [.int 0, .ref q1, .int 0, .ref q2, .ref q3, .ref q4, .int 0, .int 0, .ref q5, .ref q6, .ref q7, .ref q8, .int 0, .int 0])) :: ([(q1, .inl (cI, 144, .inl (fun _ => 0)))] ++ [(q2, .inl (cI, 40, .inl (fun _ => 0)))] ++ [(q3, .inl (cI, 40, .inl (fun _ => 0)))] ++ [(q4, .inl (cI, 40, .inl (fun _ => 0)))] ++ [(q5, .inl (cI, 12, .inl (fun _ => 0)))] ++ [(q6, .inl (cI, 12, .inl (fun _ => 0)))] ++ [(q7, .inl (cI, 144, .inl (fun _ => 0)))] ++ [(q8, .inl (cI, 4096, .inl (fun _ => 0)))])) := hD
  refine lv_aload_n hx hb dX5_init_71 rfl (lv_at hl 0 rfl) ?_
  refine lv_iconst (v := 4) hx hb dX5_init_72 (by decide) ?_
  refine va_put (D := D) (ci := 5) (v := .int 4) (ty := .int) (C := RX5) (T := TX5) (N := 14) (ref := (TX5 0).1) hx hb hts (zcls 5 _ rfl).1 tyX5 tyX5_ok nmX5 hown hK hP hD hS 0 rfl rfl 0 (by decide) (hts _ (zMem_spec (by decide +kernel))) (fun _ h9 => h9) rfl (by decide +kernel) rfl rfl (Nat.le_of_ble_eq_true rfl) dX5_init_73 (fun H locs hP hD hS => ?_)
  have hP : va_P D vwCl ((h0, .inr (5, [.int 4, .ref q1, .int 0, .ref q2, .ref q3, .ref q4, .int 0, .int 0, .ref q5, .ref q6, .ref q7, .ref q8, .int 0, .int 0])) :: ([(q1, .inl (cI, 144, .inl (fun _ => 0)))] ++ [(q2, .inl (cI, 40, .inl (fun _ => 0)))] ++ [(q3, .inl (cI, 40, .inl (fun _ => 0)))] ++ [(q4, .inl (cI, 40, .inl (fun _ => 0)))] ++ [(q5, .inl (cI, 12, .inl (fun _ => 0)))] ++ [(q6, .inl (cI, 12, .inl (fun _ => 0)))] ++ [(q7, .inl (cI, 144, .inl (fun _ => 0)))] ++ [(q8, .inl (cI, 4096, .inl (fun _ => 0)))])) H := hP
  have hD : va_D A ((h0, .inr (5, [.int 4, .ref q1, .int 0, .ref q2, .ref q3, .ref q4, .int 0, .int 0, .ref q5, .ref q6, .ref q7, .ref q8, .int 0, .int 0])) :: ([(q1, .inl (cI, 144, .inl (fun _ => 0)))] ++ [(q2, .inl (cI, 40, .inl (fun _ => 0)))] ++ [(q3, .inl (cI, 40, .inl (fun _ => 0)))] ++ [(q4, .inl (cI, 40, .inl (fun _ => 0)))] ++ [(q5, .inl (cI, 12, .inl (fun _ => 0)))] ++ [(q6, .inl (cI, 12, .inl (fun _ => 0)))] ++ [(q7, .inl (cI, 144, .inl (fun _ => 0)))] ++ [(q8, .inl (cI, 4096, .inl (fun _ => 0)))])) := hD
  exact W.vret hx hb hr (fun t ht hW => ⟨⟨(), rfl, trivial, _, ⟨q1, q2, q3, q4, q5, q6, q7, q8, rfl⟩, by rw [ht]; exact hP, by rw [hAe]; exact hD⟩, hS.F ht⟩) hS.2.2 dX5_init_76
