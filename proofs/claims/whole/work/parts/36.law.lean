set_option maxRecDepth 100000 in
set_option maxHeartbeats 4000000 in
theorem sub4 {L i : Nat} (hL : L ≤ 2048) (hi : i ≤ 2048) (h : ¬ Int32.ofNat L - 4 < nI i) : i + 4 ≤ L := by
  rcases Nat.lt_or_ge L 4 with q | q
  · exfalso
    apply h
    have h0 : ∀ j : Nat, j < 4 → Int32.ofNat j - 4 < 0 := by decide
    exact Int32.lt_of_lt_of_le (h0 L q) (nI_pos' (by omega))
  · obtain ⟨k, rfl⟩ : ∃ k, L = k + 4 := ⟨L - 4, by omega⟩
    have e : Int32.ofNat (k + 4) - 4 = nI k := by
      have h1 : Int32.ofNat (k + 4) = nI k + 4 := (nI_add k 4).symm
      rw [h1, Int32.add_sub_cancel]
    rw [e] at h
    rcases Nat.lt_or_ge k i with q2 | q2
    · exact absurd (nI_lt q2 (by omega)) h
    · omega
set_option maxRecDepth 100000 in
set_option maxHeartbeats 4000000 in
theorem law_loop {p : Program} {l : Launch} {e : Env} {s : State} {m : MethodId} {below : List Frame} {meth : Method} {c : Code} {b L : Nat} {xs : Nat → Int32} {D : va_G} {α β : zA} (X : LX p s m meth c b L xs D α β) : ∀ (n i : Nat), i ≤ L → L + 1 ≤ i + n → LW p l e s m below meth c b D α β i 18 := by
  obtain ⟨hL, ⟨hx, hb, hr, hml, hown, hts0, hX, hbl, hlocks, hgv⟩, hKa, hKb, hnw⟩ := id X
  have hA : ∀ q : Nat, s.heap.size ≤ q → (fun q : Nat => s.heap.size ≤ q) q := fun _ h => h
  have hbA : ¬ (fun q : Nat => s.heap.size ≤ q) b := Nat.not_le.mpr hbl
  intro n
  induction n with
  | zero =>
    intro i h1 h2
    exact absurd h2 (by omega)
  | succ n ih =>
    intro i hi hin a σC σM H locs ls hC hM hP hD hS hl
    refine lv_iload_n hx hb dL_law_18 rfl (lv_at hl 3 rfl) ?_
    refine lv_aload_n hx hb dL_law_19 rfl (lv_at hl 0 rfl) ?_
    refine va_slen hx hb hX hbl hbA hS dL_law_20 ?_
    refine lv_iconst (v := 4) hx hb dL_law_21 (by decide) ?_
    refine lv_isub hx hb dL_law_22 ?_
    refine lv_icmp_gt (tgt := 708) hx hb dL_law_23 (by decide) (fun c_10 => ?_) (fun c_10 => ?_)
    · refine lv_iconst (v := 1) hx hb dL_law_708 (by decide) ?_
      refine va_forget (fun q hq => hS.2.2 q hq) ?_
      refine W.widen (k := 600000) (n := 7302250) (Nat.le_of_ble_eq_true rfl) (Nat.le_of_ble_eq_true rfl) ?_
      exact lw_ret hx hb hr hlocks dL_law_709
    · have h4 : i + 4 ≤ L := sub4 hL (by omega) c_10
      have K : LW p l e s m below meth c b D α β i 702 := by
        intro a σC σM H locs ls hC hM hP hD hS hl
        refine lv_iinc (v := nI (i + 4)) (lv' := [(3, .int (nI (i + 4))), (0, .ref b), (1, .ref (α.1 0)), (2, .ref (β.1 0))]) hx hb dL_law_702 hl (k := 3) rfl (nI_add i 4) (by decide) rfl (fun ls hl => ?_)
        refine lv_goto (tgt := 18) hx hb dL_law_705 (by decide) ?_
        exact ih (i + 4) h4 (by omega) a σC σM H locs ls hC hM hP hD hS (lv_sub hl [1, 2, 3, 0] rfl)
      refine lv_aload_n hx hb dL_law_26 rfl (lv_at hl 0 rfl) ?_
      refine lv_iload_n hx hb dL_law_27 rfl (lv_at hl 3 rfl) ?_
      refine va_sld hx hb hX hbl hbA hS (vp_in_nI (by omega) (by omega)) dL_law_28 ?_
      refine lv_bipush (v := 31) hx hb dL_law_29 (by decide) ?_
      refine lv_iand hx hb dL_law_31 ?_
      generalize xs (nI i).toNatClampNeg &&& 31 = z
      by_cases hz : z.toInt < 0 ∨ 21 < z.toInt
      · exact lv_tableOut (tgt := 702) hx hb dL_law_32 hz (by decide) (K a σC σM H locs ls hC hM hP hD hS hl)
      · have z1 : ¬ z.toInt < 0 := fun q => hz (Or.inl q)
        have z2 : ¬ 21 < z.toInt := fun q => hz (Or.inr q)
        obtain ⟨k, hk⟩ : ∃ k : Nat, k = (z.toInt - 0).toNat := ⟨_, rfl⟩
        have hk2 : k < 22 := by omega
        rcases (show k = 0 ∨ k = 1 ∨ k = 2 ∨ k = 3 ∨ k = 4 ∨ k = 5 ∨ k = 6 ∨ k = 7 ∨ k = 8 ∨ k = 9 ∨ k = 10 ∨ k = 11 ∨ k = 12 ∨ k = 13 ∨ k = 14 ∨ k = 15 ∨ k = 16 ∨ k = 17 ∨ k = 18 ∨ k = 19 ∨ k = 20 ∨ k = 21 by omega) with rfl | rfl | rfl | rfl | rfl | rfl | rfl | rfl | rfl | rfl | rfl | rfl | rfl | rfl | rfl | rfl | rfl | rfl | rfl | rfl | rfl | rfl
        · exact lv_tableIn (tgt := 136) hx hb dL_law_32 z1 z2 (by rw [← hk]; rfl) (by decide) (law_0 X h4 K a σC σM H locs ls hC hM hP hD hS hl)
        · exact lv_tableIn (tgt := 159) hx hb dL_law_32 z1 z2 (by rw [← hk]; rfl) (by decide) (law_1 X h4 K a σC σM H locs ls hC hM hP hD hS hl)
        · exact lv_tableIn (tgt := 202) hx hb dL_law_32 z1 z2 (by rw [← hk]; rfl) (by decide) (law_2 X h4 K a σC σM H locs ls hC hM hP hD hS hl)
        · exact lv_tableIn (tgt := 215) hx hb dL_law_32 z1 z2 (by rw [← hk]; rfl) (by decide) (law_3 X h4 K a σC σM H locs ls hC hM hP hD hS hl)
        · exact lv_tableIn (tgt := 248) hx hb dL_law_32 z1 z2 (by rw [← hk]; rfl) (by decide) (law_4 X h4 K a σC σM H locs ls hC hM hP hD hS hl)
        · exact lv_tableIn (tgt := 271) hx hb dL_law_32 z1 z2 (by rw [← hk]; rfl) (by decide) (law_5 X h4 K a σC σM H locs ls hC hM hP hD hS hl)
        · exact lv_tableIn (tgt := 294) hx hb dL_law_32 z1 z2 (by rw [← hk]; rfl) (by decide) (law_6 X h4 K a σC σM H locs ls hC hM hP hD hS hl)
        · exact lv_tableIn (tgt := 307) hx hb dL_law_32 z1 z2 (by rw [← hk]; rfl) (by decide) (law_7 X h4 K a σC σM H locs ls hC hM hP hD hS hl)
        · exact lv_tableIn (tgt := 320) hx hb dL_law_32 z1 z2 (by rw [← hk]; rfl) (by decide) (law_8 X h4 K a σC σM H locs ls hC hM hP hD hS hl)
        · exact lv_tableIn (tgt := 343) hx hb dL_law_32 z1 z2 (by rw [← hk]; rfl) (by decide) (law_9 X h4 K a σC σM H locs ls hC hM hP hD hS hl)
        · exact lv_tableIn (tgt := 366) hx hb dL_law_32 z1 z2 (by rw [← hk]; rfl) (by decide) (law_10 X h4 K a σC σM H locs ls hC hM hP hD hS hl)
        · exact lv_tableIn (tgt := 389) hx hb dL_law_32 z1 z2 (by rw [← hk]; rfl) (by decide) (law_11 X h4 K a σC σM H locs ls hC hM hP hD hS hl)
        · exact lv_tableIn (tgt := 402) hx hb dL_law_32 z1 z2 (by rw [← hk]; rfl) (by decide) (law_12 X h4 K a σC σM H locs ls hC hM hP hD hS hl)
        · exact lv_tableIn (tgt := 435) hx hb dL_law_32 z1 z2 (by rw [← hk]; rfl) (by decide) (law_13 X h4 K a σC σM H locs ls hC hM hP hD hS hl)
        · exact lv_tableIn (tgt := 468) hx hb dL_law_32 z1 z2 (by rw [← hk]; rfl) (by decide) (law_14 X h4 K a σC σM H locs ls hC hM hP hD hS hl)
        · exact lv_tableIn (tgt := 501) hx hb dL_law_32 z1 z2 (by rw [← hk]; rfl) (by decide) (law_15 X h4 K a σC σM H locs ls hC hM hP hD hS hl)
        · exact lv_tableIn (tgt := 534) hx hb dL_law_32 z1 z2 (by rw [← hk]; rfl) (by decide) (law_16 X h4 K a σC σM H locs ls hC hM hP hD hS hl)
        · exact lv_tableIn (tgt := 577) hx hb dL_law_32 z1 z2 (by rw [← hk]; rfl) (by decide) (law_17 X h4 K a σC σM H locs ls hC hM hP hD hS hl)
        · exact lv_tableIn (tgt := 600) hx hb dL_law_32 z1 z2 (by rw [← hk]; rfl) (by decide) (law_18 X h4 K a σC σM H locs ls hC hM hP hD hS hl)
        · exact lv_tableIn (tgt := 623) hx hb dL_law_32 z1 z2 (by rw [← hk]; rfl) (by decide) (law_19 X h4 K a σC σM H locs ls hC hM hP hD hS hl)
        · exact lv_tableIn (tgt := 656) hx hb dL_law_32 z1 z2 (by rw [← hk]; rfl) (by decide) (law_20 X h4 K a σC σM H locs ls hC hM hP hD hS hl)
        · exact lv_tableIn (tgt := 679) hx hb dL_law_32 z1 z2 (by rw [← hk]; rfl) (by decide) (law_21 X h4 K a σC σM H locs ls hC hM hP hD hS hl)
theorem gK_new {n : Nat} : gK n (fun _ _ => 0) := ⟨fun _ _ => Nat.zero_le _, fun _ _ => rfl, fun _ => rfl, fun _ _ _ => rfl⟩
theorem cSt_new : cSt (4, (fun _ _ => 0), [], 0, none) (CW 0 4 (fun _ _ => 0) (fun _ => 0) (fun _ => 0) (fun _ => 0) 0 0 0 (fun _ _ => 0) (fun _ => 0) (fun _ => 0) (fun _ => 0) (fun _ _ => 0) (fun _ => 0) 0 0) :=
  cSt_mk ⟨by decide, by decide, by decide, fun _ _ _ _ => nI_0.symm, gK_new⟩ ⟨0, by decide, nI_0, nI_0, by decide, fun _ _ h => by simp at h, fun _ h => by simp at h⟩ rfl (Or.inl ⟨rfl, rfl⟩)
theorem mSt_new : mSt (4, (fun _ _ => 0), [], 0, none) (MW 4 (fun _ => 0) 0 (fun _ => 0) (fun _ => 0) (fun _ => 0) 0 0 (fun _ => 0) (fun _ => 0) (fun _ => 0) (fun _ => 0) 0 0) :=
  mSt_mk ⟨by decide, by decide, by decide, fun _ _ _ _ => nI_0.symm, gK_new⟩ ⟨nI_0, by decide, fun _ _ h => by simp at h, fun _ h => by simp at h⟩ rfl (Or.inl ⟨rfl, rfl⟩)
theorem z_arrays {s : State} {args : Array Value} (hI : (Cond.arrayClass .int).before args s = true) (hM : va_AOA .int s) : ∃ cI cM : ClassId, ∀ (k : Nat) (q : ClassId × FieldType), [(cI, FieldType.int), (cM, FieldType.array .int)][k]? = some q → ArrOfT s q.1 q.2 ∧ va_RA s q.1 q.2 := by
  obtain ⟨cI, kI, cmpI, f1, f2, f3⟩ := Cond.arrayClass_spec hI
  obtain ⟨comp, cM, kM, -, -, g2, g3, g4⟩ := arrayOver_specB hM
  refine ⟨cI, cM, fun k q hq => ?_⟩
  match k, hq with
  | 0, hq => cases hq; exact ⟨fun n z => ⟨fun k h => (by cases h), kI, f2, cmpI, f3⟩, f1⟩
  | 1, hq => cases hq; exact ⟨fun n z => ⟨fun k h => (by cases h), kM, g2, comp, g3⟩, g4⟩
  | k + 2, hq => simp at hq
set_option maxRecDepth 100000 in
set_option maxHeartbeats 4000000 in
theorem whole_start {p : Program} {e : Env} {s : State} {m : MethodId} {below : List Frame} {meth : Method} {c : Code} (l : Launch) (hflags : l.flags = flags0) {b L : Nat} {xs : Nat → Int32} (hL : L ≤ 2048) (C0 : lw_At p s m meth c b L xs) : W p l e room_1 s m #[Value.ref b] below meth c s.heap [] 0 0 (lw_Z below #[Value.ref b] s) (entryFrame m ([Value.ref b] : List Value).toArray 4) := by
  obtain ⟨hx, hb, hr, hml, hown, hts0, hX, hbl, hlocks, hgv⟩ := id C0
  have hts : ∀ w ∈ zAll, w.before #[Value.ref b] s = true := fun w hw => hts0 w (List.mem_filter.mp hw).1
  have hA : ∀ q : Nat, s.heap.size ≤ q → (fun q : Nat => s.heap.size ≤ q) q := fun _ h => h
  have hbA : ¬ (fun q : Nat => s.heap.size ≤ q) b := Nat.not_le.mpr hbl
  have hO : va_AOA .int s := va_AOA.of (hts0 (.arrayOver (.array .int)) (by decide +kernel))
  obtain ⟨cI, cM, hty⟩ := z_arrays (hts (.arrayClass .int) (zMem_spec (by decide +kernel))) hO
  obtain ⟨c0, iS0, hKn0⟩ := u_known (C := RX0) (T := TX0) (N := 5) (n := 5) hts (zcls 0 _ rfl).1 (hts (.instantiable RX0 5) (zMem_spec (by decide +kernel)))
  obtain ⟨c1, iS1, hKn1⟩ := u_known (C := RX1) (T := TX1) (N := 7) (n := 7) hts (zcls 1 _ rfl).1 (hts (.instantiable RX1 7) (zMem_spec (by decide +kernel)))
  obtain ⟨c2, iS2, hKn2⟩ := u_known (C := RX2) (T := TX2) (N := 2) (n := 2) hts (zcls 2 _ rfl).1 (hts (.instantiable RX2 2) (zMem_spec (by decide +kernel)))
  obtain ⟨c3, iS3, hKn3⟩ := u_known (C := RX3) (T := TX3) (N := 4) (n := 4) hts (zcls 3 _ rfl).1 (hts (.instantiable RX3 4) (zMem_spec (by decide +kernel)))
  obtain ⟨c4, iS4, hKn4⟩ := u_known (C := RX4) (T := TX4) (N := 4) (n := 4) hts (zcls 4 _ rfl).1 (hts (.instantiable RX4 4) (zMem_spec (by decide +kernel)))
  obtain ⟨c5, iS5, hKn5⟩ := u_known (C := RX5) (T := TX5) (N := 14) (n := 14) hts (zcls 5 _ rfl).1 (hts (.instantiable RX5 14) (zMem_spec (by decide +kernel)))
  obtain ⟨D, hKc⟩ : ∃ D : va_G, ∀ (k : Nat) (q : vw_C), vwCl[k]? = some q → u_Kn s q.1 q.2.1 q.2.2 (D.1 k) (D.2 k) := by
    refine ⟨(fun k => match k with | 0 => c0 | 1 => c1 | 2 => c2 | 3 => c3 | 4 => c4 | _ => c5, fun k => match k with | 0 => iS0 | 1 => iS1 | 2 => iS2 | 3 => iS3 | 4 => iS4 | _ => iS5), ?_⟩
    intro k q hq
    match k, hq with
    | 0, hq => cases hq; exact hKn0
    | 1, hq => cases hq; exact hKn1
    | 2, hq => cases hq; exact hKn2
    | 3, hq => cases hq; exact hKn3
    | 4, hq => cases hq; exact hKn4
    | 5, hq => cases hq; exact hKn5
    | k + 6, hq => simp [vwCl] at hq
  have hK : va_K D vwCl [(cI, .int), (cM, .array .int)] s := ⟨hKc, hty⟩
  have hnwI : ∀ w ∈ zNI, va_Nw w s := by
    intro w hw
    have h1 := hts0 w (zNI_in w hw)
    unfold zNI at hw
    simp only [List.mem_cons, List.not_mem_nil, or_false] at hw
    rcases hw with rfl | rfl <;> exact va_Nw.of rfl h1
  have hnw : ∀ w ∈ zNW, va_Nw w s := by
    intro w hw
    have h1 := hts0 w (zNW_in w hw)
    unfold zNW at hw
    simp only [List.mem_cons, List.not_mem_nil, or_false] at hw
    rcases hw with rfl | rfl | rfl | rfl | rfl | rfl <;> exact va_Nw.of rfl h1
  have hS : va_S (fun q : Nat => s.heap.size ≤ q) s.heap s.heap [] := va_S.rf
  have hP : va_P D vwCl [] s.heap := fun k q h => by simp at h
  have hD : va_D (fun q : Nat => s.heap.size ≤ q) [] := ⟨fun i j p q h => by simp at h, fun k q h => by simp at h⟩
  have hl := lv_entry ([.ref b]) (n := 4) (Nat.le_of_ble_eq_true rfl)
  rw [lg_entry_eq]
  generalize (lg_sl ([.ref b]) ++ List.replicate (4 - (lg_sl ([.ref b])).length) Slot.unset).toArray = ls at hl ⊢
  have hl : lv_has ls 4 [(0, .ref b)] := hl
  refine va_new (ci := 4) (fs := [.null, .null, .null, .int 0]) (C := RX4) (T := TX4) (N := 4) hx hb hts (zcls 4 _ rfl).1 tyX4 tyX4_ok hown (hts (.classLink RL 7 RX4) (zMem_spec (by decide +kernel))) (hts _ (zMem_spec (by decide +kernel))) (hts _ (zMem_spec (by decide +kernel))) hK hP hD hS hA rfl (fun j hj => by rcases (show j = 0 ∨ j = 1 ∨ j = 2 ∨ j = 3 by omega) with rfl | rfl | rfl | rfl <;> rfl) (Nat.le_of_ble_eq_true rfl) (Nat.le_of_ble_eq_true rfl) dL_law_0 (fun q0 H hP hD hS => ?_)
  refine W.widen (k := 1) (n := 4) (Nat.le_of_ble_eq_true rfl) (Nat.le_of_ble_eq_true rfl) ?_
  refine lv_dup hx hb dL_law_3 rfl ?_
  refine z_ctor (va_runI (b := q0) (As := []) (rest := [.ref q0]) ⟨hx, hb, hml, hown, hts⟩ (nX4 l D cI cM q0 H.size) (cwI 0 hts (zGood (zMem_spec (by decide +kernel))) rfl rfl rfl (hts _ (zMem_spec (by decide +kernel))) (hts (.methodLink RL 9 yX4_init) (zMem_spec (by decide +kernel))) (hts _ (zMem_spec (by decide +kernel))) rfl (by decide +kernel) ⟨Nat.le_of_ble_eq_true rfl, Nat.le_of_ble_eq_true rfl⟩) (z_preN (wr := []) hK hP hD hO hnwI) rfl rfl hl.1 rfl (lv_room (Nat.le_of_ble_eq_true rfl)) dL_law_4 ⟨Nat.le_of_ble_eq_true rfl, Nat.le_of_ble_eq_true rfl⟩) (wr := []) hP hD hS hA (fun w9 H locs hB hP hD hS => ?_)
  refine W.widen (k := 51) (n := 658) (Nat.le_of_ble_eq_true rfl) (Nat.le_of_ble_eq_true rfl) ?_
  obtain ⟨q1, q2, r2, q3, q4, q5, q6, q7, q8, q9, r9, q10, q11, r11, q12, q13, q14, rfl⟩ := hB
  obtain ⟨α, hα⟩ : ∃ α : zA, α = ((fun k => match k with | 0 => q0 | 1 => q1 | 2 => q2 | 3 => q3 | 4 => q4 | 5 => q5 | 6 => q6 | 7 => q7 | 8 => q8 | 9 => q9 | 10 => q10 | 11 => q11 | 12 => q12 | 13 => q13 | _ => q14), (fun k => match k with | 2 => r2 | 9 => r9 | _ => r11), cI, cM) := ⟨_, rfl⟩
  have hWC : zc α (CW 0 4 (fun _ _ => 0) (fun _ => 0) (fun _ => 0) (fun _ => 0) 0 0 0 (fun _ _ => 0) (fun _ => 0) (fun _ => 0) (fun _ => 0) (fun _ _ => 0) (fun _ => 0) 0 0) = _ := (by rw [hα]; rfl : zc α (CW 0 4 (fun _ _ => 0) (fun _ => 0) (fun _ => 0) (fun _ => 0) 0 0 0 (fun _ _ => 0) (fun _ => 0) (fun _ => 0) (fun _ => 0) (fun _ _ => 0) (fun _ => 0) 0 0) = (q0, .inr (4, [.ref q1, .ref q3, .ref q7, .int 0])) :: ([(q1, .inr (2, [.ref q2, .int 4]))] ++ zmat cI cM q2 r2 (fun _ _ => 0) ++ [(q3, .inr (0, [.ref q4, .ref q5, .ref q6, .int 0, .int 0]))] ++ [(q4, .inl (cI, 40, .inl (fun _ => 0)))] ++ [(q5, .inl (cI, 40, .inl (fun _ => 0)))] ++ [(q6, .inl (cI, 40, .inl (fun _ => 0)))] ++ [(q7, .inr (1, [.ref q1, .ref q8, .ref q11, .ref q12, .ref q13, .ref q14, .int 0]))] ++ [(q8, .inr (3, [.ref q9, .ref q10, .int 0, .int 0]))] ++ zmat cI cM q9 r9 (fun _ _ => 0) ++ [(q10, .inl (cI, 12, .inl (fun _ => 0)))] ++ zmat cI cM q11 r11 (fun _ _ => 0) ++ [(q12, .inl (cI, 12, .inl (fun _ => 0)))] ++ [(q13, .inl (cI, 12, .inl (fun _ => 0)))] ++ [(q14, .inl (cI, 12, .inl (fun _ => 0)))]))
  have hP := hP
  rw [List.nil_append, ← hWC] at hP hD
  refine lv_astore_n (lv' := [(1, .ref q0), (0, .ref b)]) hx hb dL_law_7 rfl hl (by decide) rfl (fun ls hl => ?_)
  generalize hσC : CW 0 4 (fun _ _ => 0) (fun _ => 0) (fun _ => 0) (fun _ => 0) 0 0 0 (fun _ _ => 0) (fun _ => 0) (fun _ => 0) (fun _ => 0) (fun _ _ => 0) (fun _ => 0) 0 0 = σC at hP hD
  clear hWC
  refine va_new (ci := 5) (fs := [.int 0, .null, .int 0, .null, .null, .null, .int 0, .int 0, .null, .null, .null, .null, .int 0, .int 0]) (C := RX5) (T := TX5) (N := 14) hx hb hts (zcls 5 _ rfl).1 tyX5 tyX5_ok hown (hts (.classLink RL 10 RX5) (zMem_spec (by decide +kernel))) (hts _ (zMem_spec (by decide +kernel))) (hts _ (zMem_spec (by decide +kernel))) hK hP hD hS hA rfl (fun j hj => by rcases (show j = 0 ∨ j = 1 ∨ j = 2 ∨ j = 3 ∨ j = 4 ∨ j = 5 ∨ j = 6 ∨ j = 7 ∨ j = 8 ∨ j = 9 ∨ j = 10 ∨ j = 11 ∨ j = 12 ∨ j = 13 by omega) with rfl | rfl | rfl | rfl | rfl | rfl | rfl | rfl | rfl | rfl | rfl | rfl | rfl | rfl <;> rfl) (Nat.le_of_ble_eq_true rfl) (Nat.le_of_ble_eq_true rfl) dL_law_8 (fun p0 H hP hD hS => ?_)
  refine W.widen (k := 52) (n := 672) (Nat.le_of_ble_eq_true rfl) (Nat.le_of_ble_eq_true rfl) ?_
  refine lv_dup hx hb dL_law_11 rfl ?_
  refine z_ctor (va_runI (b := p0) (As := []) (rest := [.ref p0]) ⟨hx, hb, hml, hown, hts⟩ (nX5 l D cI cM p0 H.size) (cwI 0 hts (zGood (zMem_spec (by decide +kernel))) rfl rfl rfl (hts _ (zMem_spec (by decide +kernel))) (hts (.methodLink RL 12 yX5_init) (zMem_spec (by decide +kernel))) (hts _ (zMem_spec (by decide +kernel))) rfl (by decide +kernel) ⟨Nat.le_of_ble_eq_true rfl, Nat.le_of_ble_eq_true rfl⟩) (z_preN (wr := (zc α σC)) hK hP hD hO hnwI) rfl rfl hl.1 rfl (lv_room (Nat.le_of_ble_eq_true rfl)) dL_law_12 ⟨Nat.le_of_ble_eq_true rfl, Nat.le_of_ble_eq_true rfl⟩) (wr := (zc α σC)) hP hD hS hA (fun w9 H locs hB hP hD hS => ?_)
  refine W.widen (k := 60) (n := 5200) (Nat.le_of_ble_eq_true rfl) (Nat.le_of_ble_eq_true rfl) ?_
  obtain ⟨p1, p2, p3, p4, p5, p6, p7, p8, rfl⟩ := hB
  obtain ⟨β, hβ⟩ : ∃ β : zA, β = ((fun k => match k with | 0 => p0 | 1 => p1 | 2 => p2 | 3 => p3 | 4 => p4 | 5 => p5 | 6 => p6 | 7 => p7 | _ => p8), (fun _ _ => 0), cI, cM) := ⟨_, rfl⟩
  have hWM : zc β (MW 4 (fun _ => 0) 0 (fun _ => 0) (fun _ => 0) (fun _ => 0) 0 0 (fun _ => 0) (fun _ => 0) (fun _ => 0) (fun _ => 0) 0 0) = (p0, .inr (5, [.int 4, .ref p1, .int 0, .ref p2, .ref p3, .ref p4, .int 0, .int 0, .ref p5, .ref p6, .ref p7, .ref p8, .int 0, .int 0])) :: ([(p1, .inl (cI, 144, .inl (fun _ => 0)))] ++ [(p2, .inl (cI, 40, .inl (fun _ => 0)))] ++ [(p3, .inl (cI, 40, .inl (fun _ => 0)))] ++ [(p4, .inl (cI, 40, .inl (fun _ => 0)))] ++ [(p5, .inl (cI, 12, .inl (fun _ => 0)))] ++ [(p6, .inl (cI, 12, .inl (fun _ => 0)))] ++ [(p7, .inl (cI, 144, .inl (fun _ => 0)))] ++ [(p8, .inl (cI, 4096, .inl (fun _ => 0)))]) := by rw [hβ]; rfl
  rw [← hWM] at hP hD
  refine lv_astore_n (lv' := [(2, .ref p0), (1, .ref q0), (0, .ref b)]) hx hb dL_law_15 rfl hl (by decide) rfl (fun ls hl => ?_)
  refine lv_iconst (v := 0) hx hb dL_law_16 (by decide) ?_
  refine lv_istore_n (lv' := [(3, .int 0), (2, .ref p0), (1, .ref q0), (0, .ref b)]) hx hb dL_law_17 rfl hl (by decide) rfl (fun ls hl => ?_)
  have hl : lv_has ls 4 [(0, .ref b), (1, .ref q0), (2, .ref p0), (3, .int 0)] := lv_sub hl [3, 2, 1, 0] rfl
  have e0 : α.1 0 = q0 := by rw [hα]; rfl
  have e1 : β.1 0 = p0 := by rw [hβ]; rfl
  have hKa : va_K D vwCl (zty α) s := by rw [hα]; exact hK
  have hKb : va_K D vwCl (zty β) s := by rw [hβ]; exact hK
  refine law_loop (α := α) (β := β) ⟨hL, C0, hKa, hKb, hnw⟩ (L + 1) 0 (Nat.zero_le _) (by omega) (4, (fun _ _ => 0), [], 0, none) σC _ H locs ls ?_ mSt_new (z_swapP hP) (z_swapD hD) hS (by rw [e0, e1, nI_0]; exact hl)
  rw [← hσC]
  exact cSt_new
set_option maxHeartbeats 4000000 in
theorem lw_walk (l : Launch) (hflags : l.flags = flags0) (b : Addr) (xs : List Int32) : MetFree l x (headSpec (Jvm.Cond.code x code maxLocals ret :: tables_1) room_1) (lw_P b xs) (fun _ _ _ _ _ => True) lw_Q := by
  refine MetFree.of_bodyS (code := code) (maxLocals := maxLocals) (ret := ret) (by decide) ?_ ?_
  · intro args s m h hn
    obtain ⟨meth, c, h1, h2, h3, h4, h5, h6, -, -⟩ := Cond.code_spec hn (atoms_spec (ws := Jvm.Cond.code x code maxLocals ret :: tables_1) h _ List.mem_cons_self)
    exact ⟨meth, c, h1, h2, h3, h4, h5, h6⟩
  · intro p e s m args below meth c s₁ B hml0 hP _
    obtain ⟨rfl, hx, hbd, hgv⟩ := hP
    obtain ⟨scr, harrAt, hlist, hof, hsmall⟩ := hx
    obtain ⟨hcb, hkn, -, -⟩ := State.arrayAt?_spec harrAt
    have hown : s.vm.findClass R_law = some m.cls := findClass_of_methodNamed B.named
    have hts0 : ∀ c ∈ (Jvm.Cond.code x code maxLocals ret :: tables_1), c.before #[Value.ref b] s = true := atoms_spec (ws := Jvm.Cond.code x code maxLocals ret :: tables_1) B.pre
    have hts : ∀ w ∈ lw_tbl, w.before #[Value.ref b] s = true := k2_hts_sels lw_privs (fun w hw => hts0 w (List.mem_cons_of_mem _ hw)) lw_privs_ok
    have hml : c.maxLocals = 4 := B.maxLocals_eq (hts0 _ List.mem_cons_self)
    have X₀ : Stand p l e room_1 s m #[Value.ref b] below meth c s₁ [] 0 0 := Stand.of_body B
    have hh0 : s₁.heap = s.heap := by rw [B.state]; rfl
    have hsz : scr.slots.size = xs.length := by rw [← Array.length_toList, hlist, List.length_map]
    have hval : ∀ j : Nat, j < xs.length → scr.slots[j]? = some (.int (xs.getD j 0)) := fun j hj => by
      rw [← Array.getElem?_toList, hlist]
      simp [hj]
    have hbl : b < s.heap.size := (Array.getElem?_eq_some_iff.mp hcb).1
    have hX : va_X b xs.length (fun j => xs.getD j 0) s s.heap := ⟨scr, hcb, hof, hkn, hsz, hval⟩
    have K : W p l e room_1 s m #[Value.ref b] below meth c s₁.heap [] 0 0 (lw_Z below #[Value.ref b] s) (entryFrame m ([Value.ref b] : List Value).toArray 4) := by
      rw [hh0]
      exact whole_start l hflags hbd ⟨B.exec, B.bytes, B.returns, hml, hown, hts, hX, hbl, B.notSynchronized, hgv⟩
    obtain ⟨t, a1, o, b1, b2, b3⟩ := K s₁ rfl X₀
    exact ⟨t, o, a1, b1, b2, b3⟩
theorem lw_pre_spec {args : Array Value} {s : State} (h : (Jvm.Cond.and given_1 narrow_1).before args s = true) (hr : rest_1_c.before args s = true) : ∃ (b : Addr) (xs : List Int32), lw_P b xs args s := by
  have hs := flat_of_before _ h
  have hq := flat_of_before _ hr
  have hc : (Cond.count 1).before args s = true := hs _ (by decide +kernel)
  have harr : (Cond.arrayOf (.arg 0) .int).before args s = true := hs _ (by decide +kernel)
  have hle : (Cond.le (.length (.arg 0)) (.int 2048)).before args s = true := hs _ (by decide +kernel)
  have hlen : (Cond.isInt (.length (.arg 0))).before args s = true := hq _ (by decide +kernel)
  have hall : (Cond.all (.arg 0) (.isInt (.elem (.arg 0) (.index 0)))).before args s = true := hq _ (by decide +kernel)
  obtain ⟨b, xs, hb, hx⟩ := State.ints_of_pre rfl harr hlen hall
  have hsm : xs.length < 2 ^ 31 := hx.choose_spec.2.2.2
  have hev : (Term.length (.arg 0)).eval args s none [] s = some (.int xs.length.toInt32) := hx.length_eval hb
  have hv := Cond.le_ints hev (show (Term.int 2048).eval args s none [] s = some (.int 2048) from rfl)
  have hd : xs.length.toInt32 ≤ 2048 := by
    simpa [Cond.before, Cond.holds, hv] using hle
  have hN : xs.length ≤ 2048 := (Int32.ofNat_le_ofNat hsm (by decide)).mp (show Int32.ofNat xs.length ≤ Int32.ofNat 2048 from hd)
  exact ⟨b, xs, Cond.one_arg hc (show args[0]? = some (.ref b) from hb), hx, hN, h⟩
theorem lw_comes (l : Launch) (hflags : l.flags = flags0) : Comes l x (Jvm.Cond.code x code maxLocals ret :: tables_1) room_1 (fun tb e args s => Calls_1 tb e args s ∧ rest_1 tb e args s ∧ Pre_1 tb e args s)
    (fun _ _ args s o t => lw_Q args s o t) := by
  intro p e ha hc hk s m args below hf hfit hheap happ hpre
  obtain ⟨b, xs, hP⟩ := lw_pre_spec hpre.2.2 hpre.2.1
  obtain ⟨k, o, h1, h2, h3, hQ⟩ := lw_walk l hflags b xs p e ha hc hk s m args below hf ((Spec.applies_iff_loose hf).mp happ).1 hP trivial
  exact ⟨k, o, h1, h2, h3, hQ⟩
theorem lw_frame {s t : State} {o : Outcome} {args : Array Value} (h : Framed s o t [] 600000 7302250) :
    Framed s o t (fieldLocs frame_1_writes args s ++ arrayLocs frame_1_arrays args s ++ staticLocs frame_1_statics s) 600000 7302250 := h
theorem lw_limb (L : Cond) (hL : ∀ (args : Array Value) (s t : State), L.after args s (.returned (some (.int 1))) t = true) :
    ArmFor flags0 classFile x code maxLocals ret World_1 tables_1 room_1 Calls_1 rest_1 Pre_1
      (fun tb e a s o t => postC L tb e a s o t ∧ Framed s o t (fieldLocs frame_1_writes a s ++ arrayLocs frame_1_arrays a s ++ staticLocs frame_1_statics s) 600000 7302250) := by
  intro l hflags _ _ p e ha hc hk s m args below hf hfit hheap happ hpre
  obtain ⟨k, o, h1, h2, h3, rfl, hF⟩ := lw_comes l hflags p e ha hc hk s m args below hf hfit hheap happ hpre
  exact ⟨k, _, h1, h2, h3, hL args s _, lw_frame hF⟩
theorem i_vc : Claimed_1_1 ∧ Claimed_1_2 := ⟨lw_limb limb_1_1 (fun args s t => by simp [limb_1_1, Cond.after, Cond.holds, Cond.value]), lw_limb limb_1_2 (fun args s t => Cond.after_iff.mpr (by
  first | (rw [show limb_1_2 = Cond.eq .result (.int 1) from rfl, Cond.eq_ints (x := 1) (y := 1) rfl rfl]; simp; done) | (simp [limb_1_2, Cond.value, Term.eval]; done)))⟩
