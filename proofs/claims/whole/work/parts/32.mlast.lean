/-! THE REFERENCE: witness, lightCut, classes, partner, leastAcross. -/
/-- witness(s, t) -/
def kX5_witness : zK := fun as0 st0 P => ∃ σ : zS, ∃ a : AS, ∃ s : Int32, ∃ t : Int32, ∃ r : Int32, ∃ a' : AS, (mSt a σ) ∧ (rWit s t a r a') ∧ as0 = [.inr (.inl 0), .inl s, .inl t] ∧ st0 = σ ∧ (∀ σ', mSt a' σ' → P (some (.inl r)) σ')
def iX5_witness (C0 : zK) : Prop := ∀ {σ : zS} {a : AS} {s : Int32} {t : Int32} {r : Int32} {a' : AS} {P : zP}, (mSt a σ) → (rWit s t a r a') → (∀ σ', mSt a' σ' → P (some (.inl r)) σ') → C0 [.inr (.inl 0), .inl s, .inl t] (σ) P
theorem eX5_witness : iX5_witness kX5_witness := by
  intro σ a s t r a' P h0 h1 hz
  exact ⟨σ, a, s, t, r, a', h0, h1, rfl, rfl, hz⟩
theorem oX5_witness (l : Launch) : zOK l RX5 cX5_witness rX5_witness (some .int) (tX5_witness, fX5, gX5, [(56, 2, 5, kX5_twoBarred), (134, 2, 5, kX5_decide), (124, 3, 5, kX5_leastOn), (121, 3, 5, kX5_isOnPath), (115, 1, 5, kX5_sideOf), (81, 1, 5, kX5_weigh), (75, 0, 5, kX5_full)], [], 1) := ⟨tX5_witness_ok, fX5_ok, gX5_ok, List.forall_mem_cons.mpr ⟨⟨yX5_twoBarred, cX5_twoBarred, 3, (some .int), rX5_twoBarred, zX5_twoBarred l, by decide +kernel, ykX5_twoBarred, lkX5_56⟩, List.forall_mem_cons.mpr ⟨⟨yX5_decide, cX5_decide, 3, none, rX5_decide, zX5_decide l, by decide +kernel, ykX5_decide, lkX5_134⟩, List.forall_mem_cons.mpr ⟨⟨yX5_leastOn, cX5_leastOn, 7, (some .int), rX5_leastOn, zX5_leastOn l, by decide +kernel, ykX5_leastOn, lkX5_124⟩, List.forall_mem_cons.mpr ⟨⟨yX5_isOnPath, cX5_isOnPath, 5, (some .boolean), rX5_isOnPath, zX5_isOnPath l, by decide +kernel, ykX5_isOnPath, lkX5_121⟩, List.forall_mem_cons.mpr ⟨⟨yX5_sideOf, cX5_sideOf, 5, (some .int), rX5_sideOf, zX5_sideOf l, by decide +kernel, ykX5_sideOf, lkX5_115⟩, List.forall_mem_cons.mpr ⟨⟨yX5_weigh, cX5_weigh, 5, (some .int), rX5_weigh, zX5_weigh l, by decide +kernel, ykX5_weigh, lkX5_81⟩, List.forall_mem_cons.mpr ⟨⟨yX5_full, cX5_full, 1, (some .int), rX5_full, zX5_full l, by decide +kernel, ykX5_full, lkX5_75⟩, fun _ h => absurd h List.not_mem_nil⟩⟩⟩⟩⟩⟩⟩, by decide +kernel, rfl⟩
set_option maxRecDepth 100000 in
set_option maxHeartbeats 4000000 in
theorem wX5_witness {CX5_twoBarred : zK} (HX5_twoBarred : iX5_twoBarred CX5_twoBarred) {CX5_decide : zK} (HX5_decide : iX5_decide CX5_decide) {CX5_leastOn : zK} (HX5_leastOn : iX5_leastOn CX5_leastOn) {CX5_isOnPath : zK} (HX5_isOnPath : iX5_isOnPath CX5_isOnPath) {CX5_sideOf : zK} (HX5_sideOf : iX5_sideOf CX5_sideOf) {CX5_weigh : zK} (HX5_weigh : iX5_weigh CX5_weigh) {CX5_full : zK} (HX5_full : iX5_full CX5_full) {σ : zS} {a : AS} {s : Int32} {t : Int32} {r : Int32} {a' : AS} {P : zP} (hσ : mSt a σ) (hr : rWit s t a r a') (hp : ∀ σ', mSt a' σ' → P (some (.inl r)) σ') {Z : zH} (hZ : zcl (tX5_witness, fX5, gX5, [(56, 2, 5, CX5_twoBarred), (134, 2, 5, CX5_decide), (124, 3, 5, CX5_leastOn), (121, 3, 5, CX5_isOnPath), (115, 1, 5, CX5_sideOf), (81, 1, 5, CX5_weigh), (75, 0, 5, CX5_full)], [], 1) P Z) : Z (σ) 0 [some (.inr (.inl 0)), some (.inl s), some (.inl t), none, none, none, none] [] := by
  have hσ0 := hσ
  obtain ⟨n, K, L, F, ob⟩ := a
  obtain ⟨yn, ycap, ych, ycf, yct, ycw, yfl, ysd, ypa, yla, ybw, ywo, yns, ynw, rfl, hG, hR, hF, hT⟩ := hσ
  dsimp only at hG hR hF hT
  have hn1 := hG.2.1
  have hn2 := hG.2.2.1
  refine hZ [31] 90 _ _ _ _ ?_
  refine HX5_twoBarred hG.1 hn1 hn2 ?_
  rcases hr with ⟨e, rfl, rfl⟩ | ⟨i, j, B, q, hij, hbm, qB, hq, rfl⟩
  · refine And.intro (fun c => absurd c (pe_neg e)) (fun _ => ?_)
    exact hp _ hσ0
  · have e := okP_pe hn2 hij
    have hij0 := hij
    obtain ⟨hi, hj, hne, rfl, rfl⟩ := hij
    dsimp only at hi hj e hq
    refine And.intro (fun _ => ?_) (fun c => absurd (by rw [e]; decide) c)
    refine HX5_decide hσ0 hij0 (fun a2 σ' hbm2 hc => ?_)
    have ea := rBM_uniq hbm2 hbm
    subst ea
    have hc0 := hc
    obtain ⟨q1, q2, -⟩ := rBM_some hbm
    obtain ⟨n', K', L', F', ob'⟩ := a2
    obtain ⟨zn, zcap, zch, zcf, zct, zcw, zfl, zsd, zpa, zla, zbw, zwo, zns, znw, rfl, hG', hR', hF', hT'⟩ := hc
    dsimp only at hG' hR' hF' hT' qB q1 q2
    subst q1; subst q2; subst qB
    have hG0 := hG'
    obtain ⟨rfl, hn1', hn2', hcap', hK'⟩ := hG'
    have hT0 := hT'
    obtain ⟨-, hB', -, hpa', hla'⟩ := mT_some hT'
    have p12n := p12 hn2'
    have hTI := tp_tI B (by omega : 0 < n')
    have fin := hp _ hc0
    try dsimp only at fin
    have hlw := isB_lw hTI hi hj hne hq
    have hqn := hq.1
    have hq0 : 0 < q := by
      have := hq.2.1
      simp only [onp, Bool.and_eq_true, decide_eq_true_eq] at this
      exact this.1
    refine HX5_leastOn (fl := false) hG0 hT0 rfl rfl hi hj hne ?_
    have hlwb := lw_le (p := tp n' B) hK'.1 hn2' i j
    have wtb := fun k => wt_bound hK'.1 hn2' (sd n' (tp n' B) k)
    -- the second loop: from t up to 0
    have second : (sd n' (tp n' B) q).testBit i = false → Z (MW (nI n') zcap zch zcf zct zcw zfl zsd zpa zla zbw zwo zns znw) 81 [some (.inr (.inl 0)), some (.inl (nI i)), some (.inl (nI j)), some (.inl (pe n' (nI i) (nI j))), some (.inl (nI (lw n' (tp n' B) K' i j))), some (.inl (nI 0)), none] [] := by
      intro hb
      have htb : (sd n' (tp n' B) q).testBit j = true := by
        have := hq.2.1
        simp only [onp, sep, Bool.and_eq_true, hb] at this
        cases e9 : (sd n' (tp n' B) q).testBit j with
        | true => rfl
        | false => rw [e9] at this; exact absurd this.2 (by decide)
      obtain ⟨D, hD⟩ := (sd_iff hTI hj).mp htb
      have up : ∀ (d m b : Nat), it (tp n' B) d (it (tp n' B) m j) = 0 → b < n' → (D < m → b = q) → Z (MW (nI n') zcap zch zcf zct zcw zfl zsd zpa zla zbw zwo zns znw) 87 [some (.inr (.inl 0)), some (.inl (nI i)), some (.inl (nI j)), some (.inl (pe n' (nI i) (nI j))), some (.inl (nI (lw n' (tp n' B) K' i j))), some (.inl (nI (it (tp n' B) m j))), some (.inl (nI b))] [] := by
        have done : ∀ m b, it (tp n' B) m j = 0 → (D < m → b = q) → Z (MW (nI n') zcap zch zcf zct zcw zfl zsd zpa zla zbw zwo zns znw) 87 [some (.inr (.inl 0)), some (.inl (nI i)), some (.inl (nI j)), some (.inl (pe n' (nI i) (nI j))), some (.inl (nI (lw n' (tp n' B) K' i j))), some (.inl (nI (it (tp n' B) m j))), some (.inl (nI b))] [] := by
          intro m b h0 hb2
          have hDm : D < m := by
            rcases Nat.lt_or_ge D m with z | z
            · exact z
            · rw [show D = (D - m) + m by omega, it_add, h0, it_zero hTI.1] at hD
              omega
          have hbq := hb2 hDm
          subst hbq
          rw [h0]
          refine hZ [] 60 _ _ _ _ ?_
          refine And.intro (fun _ => ?_) (fun c => absurd rfl c)
          refine HX5_full rfl hn2' ?_
          refine HX5_sideOf rfl hn2' hpa' hTI rfl hqn ?_
          rw [wit, if_neg (by rw [hb]; decide)] at fin
          exact fin
        intro d
        induction d with
        | zero =>
          intro m b h0 _ hb2
          exact done m b h0 hb2
        | succ d ih =>
          intro m b h0 hbn hb2
          by_cases hz : it (tp n' B) m j = 0
          · exact done m b hz hb2
          · have hat := it_lt hTI m j hj
            have hsl := sd_lt n' (tp n' B) (it (tp n' B) m j)
            have h0' : it (tp n' B) d (it (tp n' B) (m + 1) j) = 0 := by rw [it_succ]; exact h0
            have wb := wtb (it (tp n' B) m j)
            refine hZ [87] 90 _ _ _ _ ?_
            refine And.intro (fun c => absurd ((nI_eq (by omega) (by omega)).mp (show nI (it (tp n' B) m j) = nI 0 from c)) hz) (fun _ => ?_)
            refine HX5_isOnPath rfl hn2' hpa' hTI rfl rfl rfl hat hi hj ?_
            have keep : ¬ (onp n' (tp n' B) i j (it (tp n' B) m j) = true ∧ wt n' K' (sd n' (tp n' B) (it (tp n' B) m j)) = wt n' K' (sd n' (tp n' B) q)) → D < m + 1 → b = q := by
              intro hno hDm
              by_cases e9 : D = m
              · subst e9
                rw [hD] at hno
                exact absurd ⟨hq.2.1, rfl⟩ hno
              · exact hb2 (by omega)
            refine bz (fun h1 => ?_) (fun h1 => ?_)
            · refine And.intro (in12 (by omega)) ?_
              rw [cl12 (by omega), hpa' _ hat]
              have h9 := ih (m + 1) b h0' hbn (keep (fun z => by rw [h1] at z; cases z.1))
              rw [it_succ] at h9
              exact h9
            · refine HX5_sideOf rfl hn2' hpa' hTI rfl hat ?_
              refine HX5_weigh hG0 rfl (by omega) ?_
              refine And.intro (fun c => ?_) (fun c => ?_)
              · refine And.intro (in12 (by omega)) ?_
                rw [cl12 (by omega), hpa' _ hat]
                have h9 := ih (m + 1) b h0' hbn (keep (fun z => c (by rw [z.2, ← hlw])))
                rw [it_succ] at h9
                exact h9
              · have c2 : wt n' K' (sd n' (tp n' B) (it (tp n' B) m j)) = lw n' (tp n' B) K' i j := (nI_eq (by omega) (by omega)).mp c
                refine And.intro (in12 (by omega)) ?_
                rw [cl12 (by omega), hpa' _ hat]
                have h9 := ih (m + 1) (it (tp n' B) m j) h0' hat (fun hDm => by
                  by_cases e9 : D = m
                  · subst e9; exact hD
                  · exact absurd ⟨h1, by rw [c2, hlw]⟩ (wit_top hTI hn2' hj hq hb hD (by omega) hz))
                rw [it_succ] at h9
                exact h9
      obtain ⟨d, hd⟩ := hTI.2.2 j hj
      refine hZ [87] 40 _ _ _ _ ?_
      exact up d 0 j hd hj (fun z => absurd z (by omega))
    -- the first loop: from s up
    have first : ∀ (d m : Nat), it (tp n' B) d (it (tp n' B) m i) = 0 → (∀ D, it (tp n' B) D i = q → (∀ x, x < D → it (tp n' B) x i ≠ q) → m ≤ D) → Z (MW (nI n') zcap zch zcf zct zcw zfl zsd zpa zla zbw zwo zns znw) 31 [some (.inr (.inl 0)), some (.inl (nI i)), some (.inl (nI j)), some (.inl (pe n' (nI i) (nI j))), some (.inl (nI (lw n' (tp n' B) K' i j))), some (.inl (nI (it (tp n' B) m i))), none] [] := by
      have done : ∀ m, it (tp n' B) m i = 0 → (∀ D, it (tp n' B) D i = q → (∀ x, x < D → it (tp n' B) x i ≠ q) → m ≤ D) → Z (MW (nI n') zcap zch zcf zct zcw zfl zsd zpa zla zbw zwo zns znw) 31 [some (.inr (.inl 0)), some (.inl (nI i)), some (.inl (nI j)), some (.inl (pe n' (nI i) (nI j))), some (.inl (nI (lw n' (tp n' B) K' i j))), some (.inl (nI (it (tp n' B) m i))), none] [] := by
        intro m h0 hm
        rw [h0]
        refine hZ [81] 60 _ _ _ _ ?_
        refine And.intro (fun _ => second ?_) (fun c => absurd rfl c)
        cases hb : (sd n' (tp n' B) q).testBit i with
        | false => rfl
        | true =>
          obtain ⟨D, hD, hmin⟩ := pk_least (fun D => it (tp n' B) D i = q) ((sd_iff hTI hi).mp hb)
          have h1 := hm D hD (fun x hx => hmin x hx)
          rw [show D = (D - m) + m by omega, it_add, h0, it_zero hTI.1] at hD
          omega
      intro d
      induction d with
      | zero =>
        intro m h0 hm
        exact done m h0 hm
      | succ d ih =>
        intro m h0 hm
        by_cases hz : it (tp n' B) m i = 0
        · exact done m hz hm
        · have hat := it_lt hTI m i hi
          have hsl := sd_lt n' (tp n' B) (it (tp n' B) m i)
          have h0' : it (tp n' B) d (it (tp n' B) (m + 1) i) = 0 := by rw [it_succ]; exact h0
          have wb := wtb (it (tp n' B) m i)
          have sb : (sd n' (tp n' B) (it (tp n' B) m i)).testBit i = true := (sd_iff hTI hi).mpr ⟨m, rfl⟩
          have next : ¬ (onp n' (tp n' B) i j (it (tp n' B) m i) = true ∧ wt n' K' (sd n' (tp n' B) (it (tp n' B) m i)) = wt n' K' (sd n' (tp n' B) q)) → Z (MW (nI n') zcap zch zcf zct zcw zfl zsd zpa zla zbw zwo zns znw) 31 [some (.inr (.inl 0)), some (.inl (nI i)), some (.inl (nI j)), some (.inl (pe n' (nI i) (nI j))), some (.inl (nI (lw n' (tp n' B) K' i j))), some (.inl (nI (tp n' B (it (tp n' B) m i)))), none] [] := by
            intro hno
            have h9 := ih (m + 1) h0' (fun D hD hmin => by
              have h1 := hm D hD hmin
              by_cases e9 : m = D
              · subst e9
                rw [hD] at hno
                exact absurd ⟨hq.2.1, rfl⟩ hno
              · omega)
            rw [it_succ] at h9
            exact h9
          refine hZ [31] 90 _ _ _ _ ?_
          refine And.intro (fun c => absurd ((nI_eq (by omega) (by omega)).mp (show nI (it (tp n' B) m i) = nI 0 from c)) hz) (fun _ => ?_)
          refine HX5_isOnPath rfl hn2' hpa' hTI rfl rfl rfl hat hi hj ?_
          refine bz (fun h1 => ?_) (fun h1 => ?_)
          · refine And.intro (in12 (by omega)) ?_
            rw [cl12 (by omega), hpa' _ hat]
            exact next (fun z => by rw [h1] at z; cases z.1)
          · refine HX5_sideOf rfl hn2' hpa' hTI rfl hat ?_
            refine HX5_weigh hG0 rfl (by omega) ?_
            refine And.intro (fun c => ?_) (fun c => ?_)
            · refine And.intro (in12 (by omega)) ?_
              rw [cl12 (by omega), hpa' _ hat]
              exact next (fun z => c (by rw [z.2, ← hlw]))
            · have c2 : wt n' K' (sd n' (tp n' B) (it (tp n' B) m i)) = lw n' (tp n' B) K' i j := (nI_eq (by omega) (by omega)).mp c
              have c3 : wt n' K' (sd n' (tp n' B) (it (tp n' B) m i)) = wt n' K' (sd n' (tp n' B) q) := by rw [c2, hlw]
              have hb : (sd n' (tp n' B) q).testBit i = true := by
                cases hb : (sd n' (tp n' B) q).testBit i with
                | true => rfl
                | false => exact absurd ⟨h1, c3⟩ (wit_no hTI hn2' hi hj hq hb hat sb)
              obtain ⟨D, hD, hmin⟩ := pk_least (fun D => it (tp n' B) D i = q) ((sd_iff hTI hi).mp hb)
              have hmD := hm D hD (fun x hx => hmin x hx)
              have heq : it (tp n' B) m i = q := by
                by_cases e9 : m = D
                · subst e9; exact hD
                · exact absurd ⟨h1, c3⟩ (wit_up hTI hn2' hi hq hb hD (fun x hx => hmin x hx) (by omega)).2
              refine HX5_sideOf rfl hn2' hpa' hTI rfl hat ?_
              rw [wit, if_pos hb, ← heq] at fin
              exact fin
    obtain ⟨d, hd⟩ := hTI.2.2 i hi
    exact first d 0 hd (fun D _ _ => Nat.zero_le D)
theorem zX5_witness (l : Launch) : zMet l yX5_witness cX5_witness 7 (some .int) rX5_witness kX5_witness := zMet_of (by decide) ⟨rfl, rfl⟩ (oX5_witness l) (fun as0 st0 P h => by
  obtain ⟨σ, a, s, t, r, a', h0, h1, rfl, rfl, hz⟩ := h
  exact ⟨Nat.le_of_ble_eq_true rfl, fun Z hZ => wX5_witness eX5_twoBarred eX5_decide eX5_leastOn eX5_isOnPath eX5_sideOf eX5_weigh eX5_full h0 h1 hz hZ⟩)

/-- lightCut(k) -/
def kX5_lightCut : zK := fun as0 st0 P => ∃ σ : zS, ∃ a : AS, ∃ k : Int32, ∃ r : Int32, ∃ a' : AS, (mSt a σ) ∧ (rLight k a r a') ∧ as0 = [.inr (.inl 0), .inl k] ∧ st0 = σ ∧ (∀ σ', mSt a' σ' → P (some (.inl r)) σ')
def iX5_lightCut (C0 : zK) : Prop := ∀ {σ : zS} {a : AS} {k : Int32} {r : Int32} {a' : AS} {P : zP}, (mSt a σ) → (rLight k a r a') → (∀ σ', mSt a' σ' → P (some (.inl r)) σ') → C0 [.inr (.inl 0), .inl k] (σ) P
theorem eX5_lightCut : iX5_lightCut kX5_lightCut := by
  intro σ a k r a' P h0 h1 hz
  exact ⟨σ, a, k, r, a', h0, h1, rfl, rfl, hz⟩
theorem oX5_lightCut (l : Launch) : zOK l RX5 cX5_lightCut rX5_lightCut (some .int) (tX5_lightCut, fX5, gX5, [(109, 0, 5, kX5_freshen)], [], 1) := ⟨tX5_lightCut_ok, fX5_ok, gX5_ok, List.forall_mem_cons.mpr ⟨⟨yX5_freshen, cX5_freshen, 1, none, rX5_freshen, zX5_freshen l, by decide +kernel, ykX5_freshen, lkX5_109⟩, fun _ h => absurd h List.not_mem_nil⟩, by decide +kernel, rfl⟩
set_option maxRecDepth 100000 in
set_option maxHeartbeats 4000000 in
theorem wX5_lightCut {CX5_freshen : zK} (HX5_freshen : iX5_freshen CX5_freshen) {σ : zS} {a : AS} {k : Int32} {r : Int32} {a' : AS} {P : zP} (hσ : mSt a σ) (hr : rLight k a r a') (hp : ∀ σ', mSt a' σ' → P (some (.inl r)) σ') {Z : zH} (hZ : zcl (tX5_lightCut, fX5, gX5, [(109, 0, 5, CX5_freshen)], [], 1) P Z) : Z (σ) 0 [some (.inr (.inl 0)), some (.inl k), none, none, none] [] := by
  have hσ0 := hσ
  obtain ⟨n, K, L, F, ob⟩ := a
  obtain ⟨yn, ycap, ych, ycf, yct, ycw, yfl, ysd, ypa, yla, ybw, ywo, yns, ynw, rfl, hG, hR, hF, hT⟩ := hσ
  dsimp only at hG hR hF hT
  have hn1 := hG.2.1
  have hn2 := hG.2.2.1
  refine hZ [13] 60 _ _ _ _ ?_
  rcases hr with ⟨q, rfl, rfl⟩ | ⟨q, hrF, rfl⟩
  · exact And.intro (fun c => absurd q (Int32.not_lt.mpr c)) (fun _ => hp _ hσ0)
  · refine And.intro (fun _ => ?_) (fun c => absurd (Int32.not_lt.mp q) c)
    refine HX5_freshen hσ0 (fun a2 σ' hrF2 hc => ?_)
    have ea := rF_uniq hrF2 hrF
    subst ea
    have hc0 := hc
    obtain ⟨q1, q2, q3⟩ := rF_some hrF
    obtain ⟨n', K', L', F', ob'⟩ := a2
    obtain ⟨zn, zcap, zch, zcf, zct, zcw, zfl, zsd, zpa, zla, zbw, zwo, zns, znw, rfl, hG', hR', hF', hT'⟩ := hc
    dsimp only at hG' hR' hF' hT' q1 q2 q3
    subst q1; subst q2; subst q3
    have hG0 := hG'
    obtain ⟨rfl, hn1', hn2', hcap', hK'⟩ := hG'
    have hT0 := hT'
    obtain ⟨-, hB', -, hpa', hla'⟩ := mT_some hT'
    have hTI := tp_tI K' (by omega : 0 < n')
    have fin := hp _ hc0
    try dsimp only at fin
    have outer : ∀ m, m ≤ n' → 0 < m → ∀ o3 o4, P (some (.inl (o2i (fst1 (fun x => decide (nI (ltn n' (tl n' K') x) = k)) (n' - m) m)))) (MW (nI n') zcap zch zcf zct zcw zfl zsd zpa zla zbw zwo zns znw) → Z (MW (nI n') zcap zch zcf zct zcw zfl zsd zpa zla zbw zwo zns znw) 13 [some (.inr (.inl 0)), some (.inl k), some (.inl (nI m)), o3, o4] [] := by
      refine dn (Q := fun m => 0 < m → ∀ o3 o4, P (some (.inl (o2i (fst1 (fun x => decide (nI (ltn n' (tl n' K') x) = k)) (n' - m) m)))) (MW (nI n') zcap zch zcf zct zcw zfl zsd zpa zla zbw zwo zns znw) → Z (MW (nI n') zcap zch zcf zct zcw zfl zsd zpa zla zbw zwo zns znw) 13 [some (.inr (.inl 0)), some (.inl k), some (.inl (nI m)), o3, o4] []) ?_ ?_
      · intro _ o3 o4 hP
        rw [Nat.sub_self] at hP
        refine hZ [] 40 _ _ _ _ ?_
        exact pk_le n' n' (fun _ => hP) (fun c => absurd c (by omega))
      · intro m hm ih hm0 o3 o4 hP
        rw [show n' - m = (n' - (m + 1)) + 1 by omega, fst1] at hP
        have hlk := tl_le hB'.1 hn2' m
        have inner : ∀ x, x ≤ n' → 0 < x → Z (MW (nI n') zcap zch zcf zct zcw zfl zsd zpa zla zbw zwo zns znw) 26 [some (.inr (.inl 0)), some (.inl k), some (.inl (nI m)), some (.inl (nI (sm (fun x => ltf (tl n' K') m x) x))), some (.inl (nI x))] [] := by
          refine dn (Q := fun x => 0 < x → Z (MW (nI n') zcap zch zcf zct zcw zfl zsd zpa zla zbw zwo zns znw) 26 [some (.inr (.inl 0)), some (.inl k), some (.inl (nI m)), some (.inl (nI (sm (fun x => ltf (tl n' K') m x) x))), some (.inl (nI x))] []) ?_ ?_
          · intro _
            refine hZ [13] 40 _ _ _ _ ?_
            refine pk_le n' n' (fun _ => ?_) (fun c => absurd c (by omega))
            refine And.intro (fun c => ?_) (fun c => ?_)
            · have c : ¬ nI (ltn n' (tl n' K') m) = k := c
              rw [if_neg (by simpa using c)] at hP
              have h9 := ih (by omega) (some (.inl (nI (sm (fun x => ltf (tl n' K') m x) n')))) (some (.inl (nI n'))) hP
              rw [nI_succ m] at h9
              exact h9
            · have c : nI (ltn n' (tl n' K') m) = k := c
              rw [if_pos (by simpa using c)] at hP
              exact hP
          · intro x hx ih2 hx0
            have h9 := ih2 (by omega)
            have hlx := tl_le hB'.1 hn2' x
            have yes : ltf (tl n' K') m x = 1 → Z (MW (nI n') zcap zch zcf zct zcw zfl zsd zpa zla zbw zwo zns znw) 26 [some (.inr (.inl 0)), some (.inl k), some (.inl (nI m)), some (.inl (nI (sm (fun x => ltf (tl n' K') m x) x) + nI 1)), some (.inl (nI x + 1))] [] := by
              intro e
              rw [sm, e, ← nI_add, nI_succ x] at h9
              exact h9
            have no : ltf (tl n' K') m x = 0 → Z (MW (nI n') zcap zch zcf zct zcw zfl zsd zpa zla zbw zwo zns znw) 26 [some (.inr (.inl 0)), some (.inl k), some (.inl (nI m)), some (.inl (nI (sm (fun x => ltf (tl n' K') m x) x) + nI 0)), some (.inl (nI x + 1))] [] := by
              intro e
              rw [sm, e, ← nI_add, nI_succ x] at h9
              exact h9
            refine hZ [26] 60 _ _ _ _ ?_
            refine pk_le n' x (fun c => absurd c (by omega)) (fun _ => ?_)
            refine And.intro (in12 (by omega)) ?_
            rw [cl12 (by omega), hla' x hx0 hx]
            refine And.intro (in12 (by omega)) ?_
            rw [cl12 (by omega), hla' m hm0 hm]
            refine pk_lt (tl n' K' x) (tl n' K' m) (fun c => ?_) (fun c => ?_)
            · exact yes (if_pos ⟨hx0, Or.inl c⟩)
            · refine And.intro (in12 (by omega)) ?_
              rw [cl12 (by omega), hla' x hx0 hx]
              refine And.intro (in12 (by omega)) ?_
              rw [cl12 (by omega), hla' m hm0 hm]
              refine And.intro (fun c2 => ?_) (fun c2 => ?_)
              · have c2 : tl n' K' x ≠ tl n' K' m := fun e => c2 (by rw [e])
                exact no (if_neg (by omega))
              · have c2 : tl n' K' x = tl n' K' m := (nI_eq (by omega) (by omega)).mp c2
                refine pk_le m x (fun c3 => ?_) (fun c3 => ?_)
                · exact no (if_neg (by omega))
                · exact yes (if_pos ⟨hx0, Or.inr ⟨c2, c3⟩⟩)
        refine hZ [26] 40 _ _ _ _ ?_
        refine pk_le n' m (fun c => absurd c (by omega)) (fun _ => ?_)
        have h0 := inner 1 (by omega) (by omega)
        rw [sm, show ltf (tl n' K') m 0 = 0 from if_neg (by omega)] at h0
        exact h0
    exact outer 1 (by omega) (by omega) none none fin
theorem zX5_lightCut (l : Launch) : zMet l yX5_lightCut cX5_lightCut 5 (some .int) rX5_lightCut kX5_lightCut := zMet_of (by decide) ⟨rfl, rfl⟩ (oX5_lightCut l) (fun as0 st0 P h => by
  obtain ⟨σ, a, k, r, a', h0, h1, rfl, rfl, hz⟩ := h
  exact ⟨Nat.le_of_ble_eq_true rfl, fun Z hZ => wX5_lightCut eX5_freshen h0 h1 hz hZ⟩)

/-- classCount(l) -/
def kX5_classCount : zK := fun as0 st0 P => ∃ σ : zS, ∃ a : AS, ∃ l : Int32, ∃ r : Int32, ∃ a' : AS, (mSt a σ) ∧ (rCC l a r a') ∧ as0 = [.inr (.inl 0), .inl l] ∧ st0 = σ ∧ (∀ σ', mSt a' σ' → P (some (.inl r)) σ')
def iX5_classCount (C0 : zK) : Prop := ∀ {σ : zS} {a : AS} {l : Int32} {r : Int32} {a' : AS} {P : zP}, (mSt a σ) → (rCC l a r a') → (∀ σ', mSt a' σ' → P (some (.inl r)) σ') → C0 [.inr (.inl 0), .inl l] (σ) P
theorem eX5_classCount : iX5_classCount kX5_classCount := by
  intro σ a l r a' P h0 h1 hz
  exact ⟨σ, a, l, r, a', h0, h1, rfl, rfl, hz⟩
theorem oX5_classCount (l : Launch) : zOK l RX5 cX5_classCount rX5_classCount (some .int) (tX5_classCount, fX5, gX5, [(137, 1, 100, kX5_isLimit), (109, 0, 5, kX5_freshen), (140, 2, 5, kX5_classBy)], [], 1) := ⟨tX5_classCount_ok, fX5_ok, gX5_ok, List.forall_mem_cons.mpr ⟨⟨yX5_isLimit, cX5_isLimit, 1, (some .boolean), rX5_isLimit, zX5_isLimit l, by decide +kernel, ykX5_isLimit, lkX5_137⟩, List.forall_mem_cons.mpr ⟨⟨yX5_freshen, cX5_freshen, 1, none, rX5_freshen, zX5_freshen l, by decide +kernel, ykX5_freshen, lkX5_109⟩, List.forall_mem_cons.mpr ⟨⟨yX5_classBy, cX5_classBy, 5, (some .int), rX5_classBy, zX5_classBy l, by decide +kernel, ykX5_classBy, lkX5_140⟩, fun _ h => absurd h List.not_mem_nil⟩⟩⟩, by decide +kernel, rfl⟩
set_option maxRecDepth 100000 in
set_option maxHeartbeats 4000000 in
theorem wX5_classCount {CX5_isLimit : zK} (HX5_isLimit : iX5_isLimit CX5_isLimit) {CX5_freshen : zK} (HX5_freshen : iX5_freshen CX5_freshen) {CX5_classBy : zK} (HX5_classBy : iX5_classBy CX5_classBy) {σ : zS} {a : AS} {l : Int32} {r : Int32} {a' : AS} {P : zP} (hσ : mSt a σ) (hr : rCC l a r a') (hp : ∀ σ', mSt a' σ' → P (some (.inl r)) σ') {Z : zH} (hZ : zcl (tX5_classCount, fX5, gX5, [(137, 1, 100, CX5_isLimit), (109, 0, 5, CX5_freshen), (140, 2, 5, CX5_classBy)], [], 1) P Z) : Z (σ) 0 [some (.inr (.inl 0)), some (.inl l), none, none] [] := by
  have hσ0 := hσ
  obtain ⟨n, K, L, F, ob⟩ := a
  obtain ⟨yn, ycap, ych, ycf, yct, ycw, yfl, ysd, ypa, yla, ybw, ywo, yns, ynw, rfl, hG, hR, hF, hT⟩ := hσ
  dsimp only at hG hR hF hT
  have hn1 := hG.2.1
  have hn2 := hG.2.2.1
  refine hZ [18] 60 _ _ _ _ ?_
  refine HX5_isLimit ?_
  rcases hr with ⟨q, rfl, rfl⟩ | ⟨m0, hm0, rfl, hrF, rfl⟩
  · rw [q]
    exact And.intro (fun c => absurd rfl c) (fun _ => hp _ hσ0)
  · rw [okLim_nI hm0]
    refine And.intro (fun _ => ?_) (fun c => absurd c (by decide))
    refine HX5_freshen hσ0 (fun a2 σ' hrF2 hc => ?_)
    have ea := rF_uniq hrF2 hrF
    subst ea
    have hc0 := hc
    obtain ⟨q1, q2, q3⟩ := rF_some hrF
    obtain ⟨n', K', L', F', ob'⟩ := a2
    obtain ⟨zn, zcap, zch, zcf, zct, zcw, zfl, zsd, zpa, zla, zbw, zwo, zns, znw, rfl, hG', hR', hF', hT'⟩ := hc
    dsimp only at hG' hR' hF' hT' q1 q2 q3
    subst q1; subst q2; subst q3
    have hG0 := hG'
    obtain ⟨rfl, hn1', hn2', hcap', hK'⟩ := hG'
    have hT0 := hT'
    obtain ⟨-, hB', -, hpa', hla'⟩ := mT_some hT'
    have hTI := tp_tI K' (by omega : 0 < n')
    have fin := hp _ hc0
    try dsimp only at fin
    rw [← class_count hTI (by omega)] at fin
    have p12n := p12 hn2'
    have loop : ∀ x, x ≤ n' → Z (MW (nI n') zcap zch zcf zct zcw zfl zsd zpa zla zbw zwo zns znw) 18 [some (.inr (.inl 0)), some (.inl (nI m0)), some (.inl (nI (sm (fun k => if rpb n' (tp n' K') (tl n' K') m0 k = true then 1 else 0) x))), some (.inl (nI x))] [] := by
      refine dn (Q := fun x => Z (MW (nI n') zcap zch zcf zct zcw zfl zsd zpa zla zbw zwo zns znw) 18 [some (.inr (.inl 0)), some (.inl (nI m0)), some (.inl (nI (sm (fun k => if rpb n' (tp n' K') (tl n' K') m0 k = true then 1 else 0) x))), some (.inl (nI x))] []) ?_ ?_
      · refine hZ [] 40 _ _ _ _ ?_
        exact pk_le n' n' (fun _ => fin) (fun c => absurd c (by omega))
      · intro x hx h9
        have cl : cls0 n' (tp n' K') (tl n' K') m0 x n' < 2 ^ n' := Nat.or_lt_two_pow (Nat.pow_lt_pow_right (by decide) hx) (bset_lt _ _)
        have cl2 : cls0 n' (tp n' K') (tl n' K') m0 x n' &&& (2 ^ x - 1) < 2 ^ n' := Nat.lt_of_le_of_lt Nat.and_le_left cl
        refine hZ [18] 60 _ _ _ _ ?_
        refine pk_le n' x (fun c => absurd c (by omega)) (fun _ => ?_)
        refine HX5_classBy hG0 hT0 rfl rfl hx (by omega) ?_
        have ee : nI (cls0 n' (tp n' K') (tl n' K') m0 x n') &&& (((1 : Int32) <<< (nI x &&& 31)) - 1) = nI (cls0 n' (tp n' K') (tl n' K') m0 x n' &&& (2 ^ x - 1)) := by
          rw [nI_full (by omega), bI_and]
        refine And.intro (fun c => ?_) (fun c => ?_)
        · have c : ¬ cls0 n' (tp n' K') (tl n' K') m0 x n' &&& (2 ^ x - 1) = 0 := fun e => c (by rw [ee, e]; rfl)
          rw [sm, if_neg (show ¬ rpb n' (tp n' K') (tl n' K') m0 x = true by simpa [rpb] using c), ← nI_add, nI_succ x] at h9
          exact h9
        · have c : cls0 n' (tp n' K') (tl n' K') m0 x n' &&& (2 ^ x - 1) = 0 := (nI_eq (by omega) (by omega)).mp (show nI _ = nI 0 by rw [← ee]; exact c)
          rw [sm, if_pos (show rpb n' (tp n' K') (tl n' K') m0 x = true by simpa [rpb] using c), ← nI_add, nI_succ x] at h9
          exact h9
    exact loop 0 (by omega)
theorem zX5_classCount (l : Launch) : zMet l yX5_classCount cX5_classCount 4 (some .int) rX5_classCount kX5_classCount := zMet_of (by decide) ⟨rfl, rfl⟩ (oX5_classCount l) (fun as0 st0 P h => by
  obtain ⟨σ, a, l, r, a', h0, h1, rfl, rfl, hz⟩ := h
  exact ⟨Nat.le_of_ble_eq_true rfl, fun Z hZ => wX5_classCount eX5_isLimit eX5_freshen eX5_classBy h0 h1 hz hZ⟩)

/-- classOf(k, l) -/
def kX5_classOf : zK := fun as0 st0 P => ∃ σ : zS, ∃ a : AS, ∃ k : Int32, ∃ l : Int32, ∃ r : Int32, ∃ a' : AS, (mSt a σ) ∧ (rCO k l a r a') ∧ as0 = [.inr (.inl 0), .inl k, .inl l] ∧ st0 = σ ∧ (∀ σ', mSt a' σ' → P (some (.inl r)) σ')
def iX5_classOf (C0 : zK) : Prop := ∀ {σ : zS} {a : AS} {k : Int32} {l : Int32} {r : Int32} {a' : AS} {P : zP}, (mSt a σ) → (rCO k l a r a') → (∀ σ', mSt a' σ' → P (some (.inl r)) σ') → C0 [.inr (.inl 0), .inl k, .inl l] (σ) P
theorem eX5_classOf : iX5_classOf kX5_classOf := by
  intro σ a k l r a' P h0 h1 hz
  exact ⟨σ, a, k, l, r, a', h0, h1, rfl, rfl, hz⟩
theorem oX5_classOf (l : Launch) : zOK l RX5 cX5_classOf rX5_classOf (some .int) (tX5_classOf, fX5, gX5, [(42, 1, 5, kX5_noNode), (137, 1, 100, kX5_isLimit), (109, 0, 5, kX5_freshen), (140, 2, 5, kX5_classBy)], [], 1) := ⟨tX5_classOf_ok, fX5_ok, gX5_ok, List.forall_mem_cons.mpr ⟨⟨yX5_noNode, cX5_noNode, 2, (some .boolean), rX5_noNode, zX5_noNode l, by decide +kernel, ykX5_noNode, lkX5_42⟩, List.forall_mem_cons.mpr ⟨⟨yX5_isLimit, cX5_isLimit, 1, (some .boolean), rX5_isLimit, zX5_isLimit l, by decide +kernel, ykX5_isLimit, lkX5_137⟩, List.forall_mem_cons.mpr ⟨⟨yX5_freshen, cX5_freshen, 1, none, rX5_freshen, zX5_freshen l, by decide +kernel, ykX5_freshen, lkX5_109⟩, List.forall_mem_cons.mpr ⟨⟨yX5_classBy, cX5_classBy, 5, (some .int), rX5_classBy, zX5_classBy l, by decide +kernel, ykX5_classBy, lkX5_140⟩, fun _ h => absurd h List.not_mem_nil⟩⟩⟩⟩, by decide +kernel, rfl⟩
set_option maxRecDepth 100000 in
set_option maxHeartbeats 4000000 in
theorem wX5_classOf {CX5_noNode : zK} (HX5_noNode : iX5_noNode CX5_noNode) {CX5_isLimit : zK} (HX5_isLimit : iX5_isLimit CX5_isLimit) {CX5_freshen : zK} (HX5_freshen : iX5_freshen CX5_freshen) {CX5_classBy : zK} (HX5_classBy : iX5_classBy CX5_classBy) {σ : zS} {a : AS} {k : Int32} {l : Int32} {r : Int32} {a' : AS} {P : zP} (hσ : mSt a σ) (hr : rCO k l a r a') (hp : ∀ σ', mSt a' σ' → P (some (.inl r)) σ') {Z : zH} (hZ : zcl (tX5_classOf, fX5, gX5, [(42, 1, 5, CX5_noNode), (137, 1, 100, CX5_isLimit), (109, 0, 5, CX5_freshen), (140, 2, 5, CX5_classBy)], [], 1) P Z) : Z (σ) 0 [some (.inr (.inl 0)), some (.inl k), some (.inl l)] [] := by
  have hσ0 := hσ
  obtain ⟨n, K, L, F, ob⟩ := a
  obtain ⟨yn, ycap, ych, ycf, yct, ycw, yfl, ysd, ypa, yla, ybw, ywo, yns, ynw, rfl, hG, hR, hF, hT⟩ := hσ
  dsimp only at hG hR hF hT
  have hn1 := hG.2.1
  have hn2 := hG.2.2.1
  refine hZ [] 60 _ _ _ _ ?_
  refine HX5_noNode hG.1 hn1 hn2 ?_
  rcases hr with ⟨q, rfl, rfl⟩ | ⟨q, q2, rfl, rfl⟩ | ⟨i, m0, hi, rfl, hm0, rfl, hrF, rfl⟩
  · rw [q]
    exact And.intro (fun c => absurd c (by decide)) (fun _ => hp _ hσ0)
  · rw [q]
    refine And.intro (fun _ => ?_) (fun c => absurd rfl c)
    refine HX5_isLimit ?_
    rw [q2]
    exact And.intro (fun c => absurd rfl c) (fun _ => hp _ hσ0)
  · dsimp only at hi
    rw [okN_nI (by omega) hi]
    refine And.intro (fun _ => ?_) (fun c => absurd rfl c)
    refine HX5_isLimit ?_
    rw [okLim_nI hm0]
    refine And.intro (fun _ => ?_) (fun c => absurd c (by decide))
    refine HX5_freshen hσ0 (fun a2 σ' hrF2 hc => ?_)
    have ea := rF_uniq hrF2 hrF
    subst ea
    have hc0 := hc
    obtain ⟨q1, q2, q3⟩ := rF_some hrF
    obtain ⟨n', K', L', F', ob'⟩ := a2
    obtain ⟨zn, zcap, zch, zcf, zct, zcw, zfl, zsd, zpa, zla, zbw, zwo, zns, znw, rfl, hG', hR', hF', hT'⟩ := hc
    dsimp only at hG' hR' hF' hT' q1 q2 q3
    subst q1; subst q2; subst q3
    have hG0 := hG'
    obtain ⟨rfl, hn1', hn2', hcap', hK'⟩ := hG'
    have hT0 := hT'
    obtain ⟨-, hB', -, hpa', hla'⟩ := mT_some hT'
    have hTI := tp_tI K' (by omega : 0 < n')
    have fin := hp _ hc0
    try dsimp only at fin
    refine HX5_classBy hG0 hT0 rfl rfl hi (by omega) ?_
    exact fin
theorem zX5_classOf (l : Launch) : zMet l yX5_classOf cX5_classOf 3 (some .int) rX5_classOf kX5_classOf := zMet_of (by decide) ⟨rfl, rfl⟩ (oX5_classOf l) (fun as0 st0 P h => by
  obtain ⟨σ, a, k, l, r, a', h0, h1, rfl, rfl, hz⟩ := h
  exact ⟨Nat.le_of_ble_eq_true rfl, fun Z hZ => wX5_classOf eX5_noNode eX5_isLimit eX5_freshen eX5_classBy h0 h1 hz hZ⟩)

/-- partner(k) -/
def kX5_partner : zK := fun as0 st0 P => ∃ σ : zS, ∃ a : AS, ∃ k : Int32, ∃ r : Int32, ∃ a' : AS, (mSt a σ) ∧ (rPart k a r a') ∧ as0 = [.inr (.inl 0), .inl k] ∧ st0 = σ ∧ (∀ σ', mSt a' σ' → P (some (.inl r)) σ')
def iX5_partner (C0 : zK) : Prop := ∀ {σ : zS} {a : AS} {k : Int32} {r : Int32} {a' : AS} {P : zP}, (mSt a σ) → (rPart k a r a') → (∀ σ', mSt a' σ' → P (some (.inl r)) σ') → C0 [.inr (.inl 0), .inl k] (σ) P
theorem eX5_partner : iX5_partner kX5_partner := by
  intro σ a k r a' P h0 h1 hz
  exact ⟨σ, a, k, r, a', h0, h1, rfl, rfl, hz⟩
theorem oX5_partner (l : Launch) : zOK l RX5 cX5_partner rX5_partner (some .int) (tX5_partner, fX5, gX5, [(42, 1, 5, kX5_noNode), (109, 0, 5, kX5_freshen), (124, 3, 5, kX5_leastOn)], [], 1) := ⟨tX5_partner_ok, fX5_ok, gX5_ok, List.forall_mem_cons.mpr ⟨⟨yX5_noNode, cX5_noNode, 2, (some .boolean), rX5_noNode, zX5_noNode l, by decide +kernel, ykX5_noNode, lkX5_42⟩, List.forall_mem_cons.mpr ⟨⟨yX5_freshen, cX5_freshen, 1, none, rX5_freshen, zX5_freshen l, by decide +kernel, ykX5_freshen, lkX5_109⟩, List.forall_mem_cons.mpr ⟨⟨yX5_leastOn, cX5_leastOn, 7, (some .int), rX5_leastOn, zX5_leastOn l, by decide +kernel, ykX5_leastOn, lkX5_124⟩, fun _ h => absurd h List.not_mem_nil⟩⟩⟩, by decide +kernel, rfl⟩
set_option maxRecDepth 100000 in
set_option maxHeartbeats 4000000 in
theorem wX5_partner {CX5_noNode : zK} (HX5_noNode : iX5_noNode CX5_noNode) {CX5_freshen : zK} (HX5_freshen : iX5_freshen CX5_freshen) {CX5_leastOn : zK} (HX5_leastOn : iX5_leastOn CX5_leastOn) {σ : zS} {a : AS} {k : Int32} {r : Int32} {a' : AS} {P : zP} (hσ : mSt a σ) (hr : rPart k a r a') (hp : ∀ σ', mSt a' σ' → P (some (.inl r)) σ') {Z : zH} (hZ : zcl (tX5_partner, fX5, gX5, [(42, 1, 5, CX5_noNode), (109, 0, 5, CX5_freshen), (124, 3, 5, CX5_leastOn)], [], 1) P Z) : Z (σ) 0 [some (.inr (.inl 0)), some (.inl k), none, none, none, none] [] := by
  have hσ0 := hσ
  obtain ⟨n, K, L, F, ob⟩ := a
  obtain ⟨yn, ycap, ych, ycf, yct, ycw, yfl, ysd, ypa, yla, ybw, ywo, yns, ynw, rfl, hG, hR, hF, hT⟩ := hσ
  dsimp only at hG hR hF hT
  have hn1 := hG.2.1
  have hn2 := hG.2.2.1
  refine hZ [22] 60 _ _ _ _ ?_
  refine HX5_noNode hG.1 hn1 hn2 ?_
  rcases hr with ⟨q, rfl, rfl⟩ | ⟨u, hu, rfl, hrF, rfl⟩
  · rw [q]
    exact And.intro (fun c => absurd c (by decide)) (fun _ => hp _ hσ0)
  · dsimp only at hu
    rw [okN_nI (by omega) hu]
    refine And.intro (fun _ => ?_) (fun c => absurd rfl c)
    refine HX5_freshen hσ0 (fun a2 σ' hrF2 hc => ?_)
    have ea := rF_uniq hrF2 hrF
    subst ea
    have hc0 := hc
    obtain ⟨q1, q2, q3⟩ := rF_some hrF
    obtain ⟨n', K', L', F', ob'⟩ := a2
    obtain ⟨zn, zcap, zch, zcf, zct, zcw, zfl, zsd, zpa, zla, zbw, zwo, zns, znw, rfl, hG', hR', hF', hT'⟩ := hc
    dsimp only at hG' hR' hF' hT' q1 q2 q3
    subst q1; subst q2; subst q3
    have hG0 := hG'
    obtain ⟨rfl, hn1', hn2', hcap', hK'⟩ := hG'
    have hT0 := hT'
    obtain ⟨-, hB', -, hpa', hla'⟩ := mT_some hT'
    have hTI := tp_tI K' (by omega : 0 < n')
    have fin := hp _ hc0
    try dsimp only at fin
    have hlm := lm_le (n := n') (p := tp n' K') (tl_le hB'.1 hn2') u
    have loop : ∀ m, m ≤ n' → ∀ o5, Z (MW (nI n') zcap zch zcf zct zcw zfl zsd zpa zla zbw zwo zns znw) 22 [some (.inr (.inl 0)), some (.inl (nI u)), some (.inl (o2i ((mst (fun o => lm n' (tp n' K') (tl n' K') u o) u m).map Prod.fst))), some (.inl (mI (mst (fun o => lm n' (tp n' K') (tl n' K') u o) u m))), some (.inl (nI m)), o5] [] := by
      refine dn (Q := fun m => ∀ o5, Z (MW (nI n') zcap zch zcf zct zcw zfl zsd zpa zla zbw zwo zns znw) 22 [some (.inr (.inl 0)), some (.inl (nI u)), some (.inl (o2i ((mst (fun o => lm n' (tp n' K') (tl n' K') u o) u m).map Prod.fst))), some (.inl (mI (mst (fun o => lm n' (tp n' K') (tl n' K') u o) u m))), some (.inl (nI m)), o5] []) ?_ ?_
      · intro o5
        refine hZ [] 40 _ _ _ _ ?_
        exact pk_le n' n' (fun _ => fin) (fun c => absurd c (by omega))
      · intro m hm ih o5
        have vb : ∀ q, mst (fun o => lm n' (tp n' K') (tl n' K') u o) u m = some q → q.2 ≤ 143856 := mst_le hlm m
        refine hZ [22] 60 _ _ _ _ ?_
        refine pk_le n' m (fun c => absurd c (by omega)) (fun _ => ?_)
        refine And.intro (fun c => ?_) (fun c => ?_)
        · have c : m ≠ u := fun e => c (by rw [e])
          have hm2 := hlm m
          refine HX5_leastOn (fl := true) hG0 hT0 rfl rfl hu hm (Ne.symm c) ?_
          have h9 := ih (some (.inl (nI (lm n' (tp n' K') (tl n' K') u m))))
          rw [nI_succ m, mst, if_neg c] at h9
          cases e : mst (fun o => lm n' (tp n' K') (tl n' K') u o) u m with
          | none =>
            rw [e] at h9
            have hno : ¬ nI (lm n' (tp n' K') (tl n' K') u m) ≤ mI none := fun c2 => by
              have c3 := Int32.le_iff_toInt_le.mp c2
              rw [nI_toInt (by omega)] at c3
              have : (mI none).toInt = -1 := by decide
              rw [this] at c3
              omega
            refine And.intro (fun c2 => absurd c2 hno) (fun _ => ?_)
            refine And.intro (fun c2 => absurd c2 hno) (fun _ => ?_)
            exact h9
          | some q =>
            obtain ⟨b, v⟩ := q
            have hv := vb _ e
            rw [e] at h9
            dsimp only at h9 hv
            refine pk_le (lm n' (tp n' K') (tl n' K') u m) v (fun c2 => ?_) (fun c2 => ?_)
            · refine pk_le (lm n' (tp n' K') (tl n' K') u m) v (fun _ => ?_) (fun c3 => absurd c3 (by omega))
              rw [if_neg (by omega)] at h9
              exact h9
            · refine pk_le (lm n' (tp n' K') (tl n' K') u m) v (fun c3 => absurd c3 (by omega)) (fun _ => ?_)
              rw [if_pos c2] at h9
              exact h9
        · have c : m = u := (nI_eq (by omega) (by omega)).mp c
          have h9 := ih (some (.inl (-1)))
          rw [nI_succ m, mst, if_pos c] at h9
          have hle : (-1 : Int32) ≤ mI (mst (fun o => lm n' (tp n' K') (tl n' K') u o) u m) := by
            cases e : mst (fun o => lm n' (tp n' K') (tl n' K') u o) u m with
            | none => decide
            | some q =>
              have hv := vb _ e
              exact Int32.le_trans (by decide : (-1 : Int32) ≤ 0) (nI_pos' (by omega))
          refine And.intro (fun _ => ?_) (fun c2 => absurd hle c2)
          refine And.intro (fun _ => ?_) (fun c2 => absurd hle c2)
          exact h9
    exact loop 0 (by omega) none
theorem zX5_partner (l : Launch) : zMet l yX5_partner cX5_partner 6 (some .int) rX5_partner kX5_partner := zMet_of (by decide) ⟨rfl, rfl⟩ (oX5_partner l) (fun as0 st0 P h => by
  obtain ⟨σ, a, k, r, a', h0, h1, rfl, rfl, hz⟩ := h
  exact ⟨Nat.le_of_ble_eq_true rfl, fun Z hZ => wX5_partner eX5_noNode eX5_freshen eX5_leastOn h0 h1 hz hZ⟩)

def seen2 (S u v i j : Nat) : Prop := (i < u ∨ (i = u ∧ j < v)) ∧ S.testBit i = true ∧ S.testBit j = false
def oLB (n : Nat) (f : Nat → Nat → Nat) (S u v : Nat) (o : Option Nat) : Prop := match o with
  | none => ∀ i j, j < n → ¬ seen2 S u v i j
  | some w => (∃ i j, j < n ∧ seen2 S u v i j ∧ f i j = w) ∧ ∀ i j, j < n → seen2 S u v i j → w ≤ f i j
theorem oLB_end {n : Nat} {f : Nat → Nat → Nat} {S : Nat} {o : Option Nat} (hS2 : S < 2 ^ n) (h0 : 0 < S) (h1 : S < 2 ^ n - 1) (h : oLB n f S n 0 o) : ∃ w, o = some w ∧ isLA n f S w := by
  cases o with
  | none =>
    obtain ⟨u, x, a1, a2, a3, a4⟩ := cut_ex h0 h1
    exact absurd ⟨Or.inl a1, a3, a4⟩ (h u x a2)
  | some w =>
    obtain ⟨⟨i, j, hj, hs, he⟩, hall⟩ := h
    exact ⟨w, rfl, ⟨i, j, lt_of_bit hS2 hs.2.1, hj, hs.2.1, hs.2.2, he⟩, fun u x a1 a2 a3 a4 => hall u x a2 ⟨Or.inl a1, a3, a4⟩⟩
theorem oLB_skip {n : Nat} {f : Nat → Nat → Nat} {S u v : Nat} {o : Option Nat} (h : oLB n f S u v o) (hs : ¬ (S.testBit u = true ∧ S.testBit v = false)) : oLB n f S u (v + 1) o := by
  have e : ∀ i j, seen2 S u (v + 1) i j ↔ seen2 S u v i j := fun i j => by
    unfold seen2
    constructor
    · rintro ⟨b, c, d⟩
      refine ⟨?_, c, d⟩
      rcases b with b | ⟨b1, b2⟩
      · exact Or.inl b
      · by_cases q : j = v
        · subst q; subst b1; exact absurd ⟨c, d⟩ hs
        · exact Or.inr ⟨b1, by omega⟩
    · rintro ⟨b, c⟩
      exact ⟨by omega, c⟩
  cases o with
  | none => exact fun i j hj q => h i j hj ((e i j).mp q)
  | some w =>
    obtain ⟨⟨i, j, a1, a2, a3⟩, b⟩ := h
    exact ⟨⟨i, j, a1, (e i j).mpr a2, a3⟩, fun i j hj q => b i j hj ((e i j).mp q)⟩
theorem oLB_take {n : Nat} {f : Nat → Nat → Nat} {S u v : Nat} {o : Option Nat} (h : oLB n f S u v o) (hv : v < n) (h1 : S.testBit u = true) (h2 : S.testBit v = false) : oLB n f S u (v + 1) (omin o (some (f u v))) := by
  have new : seen2 S u (v + 1) u v := ⟨Or.inr ⟨rfl, by omega⟩, h1, h2⟩
  have old : ∀ i j, seen2 S u (v + 1) i j → seen2 S u v i j ∨ (i = u ∧ j = v) := fun i j ⟨b, c⟩ => by
    rcases b with b | ⟨b1, b2⟩
    · exact Or.inl ⟨Or.inl b, c⟩
    · by_cases q : j = v
      · exact Or.inr ⟨b1, q⟩
      · exact Or.inl ⟨Or.inr ⟨b1, by omega⟩, c⟩
  have up : ∀ i j, seen2 S u v i j → seen2 S u (v + 1) i j := fun i j ⟨b, c⟩ => ⟨by omega, c⟩
  cases o with
  | none =>
    refine ⟨⟨u, v, hv, new, rfl⟩, fun i j hj q => ?_⟩
    rcases old i j q with q | ⟨rfl, rfl⟩
    · exact absurd q (h i j hj)
    · exact Nat.le_refl _
  | some w =>
    obtain ⟨⟨i, j, a1, a2, a3⟩, b⟩ := h
    show oLB n f S u (v + 1) (some (if f u v < w then f u v else w))
    by_cases c : f u v < w
    · rw [if_pos c]
      refine ⟨⟨u, v, hv, new, rfl⟩, fun i j hj q => ?_⟩
      rcases old i j q with q | ⟨rfl, rfl⟩
      · have := b i j hj q; omega
      · exact Nat.le_refl _
    · rw [if_neg c]
      refine ⟨⟨i, j, a1, up i j a2, a3⟩, fun i j hj q => ?_⟩
      rcases old i j q with q | ⟨rfl, rfl⟩
      · exact b i j hj q
      · omega
theorem oLB_next {n : Nat} {f : Nat → Nat → Nat} {S u : Nat} {o : Option Nat} (h : oLB n f S u n o) : oLB n f S (u + 1) 0 o := by
  have e : ∀ i j, j < n → (seen2 S (u + 1) 0 i j ↔ seen2 S u n i j) := fun i j hj => by
    unfold seen2
    constructor
    · rintro ⟨b, c⟩
      exact ⟨by omega, c⟩
    · rintro ⟨b, c⟩
      exact ⟨by omega, c⟩
  cases o with
  | none => exact fun i j hj q => h i j hj ((e i j hj).mp q)
  | some w =>
    obtain ⟨⟨i, j, a1, a2, a3⟩, b⟩ := h
    exact ⟨⟨i, j, a1, (e i j a1).mpr a2, a3⟩, fun i j hj q => b i j hj ((e i j hj).mp q)⟩
/-- leastAcross(x) -/
def kX5_leastAcross : zK := fun as0 st0 P => ∃ σ : zS, ∃ a : AS, ∃ x : Int32, ∃ r : Int32, ∃ a' : AS, (mSt a σ) ∧ (rLA x a r a') ∧ as0 = [.inr (.inl 0), .inl x] ∧ st0 = σ ∧ (∀ σ', mSt a' σ' → P (some (.inl r)) σ')
def iX5_leastAcross (C0 : zK) : Prop := ∀ {σ : zS} {a : AS} {x : Int32} {r : Int32} {a' : AS} {P : zP}, (mSt a σ) → (rLA x a r a') → (∀ σ', mSt a' σ' → P (some (.inl r)) σ') → C0 [.inr (.inl 0), .inl x] (σ) P
theorem eX5_leastAcross : iX5_leastAcross kX5_leastAcross := by
  intro σ a x r a' P h0 h1 hz
  exact ⟨σ, a, x, r, a', h0, h1, rfl, rfl, hz⟩
theorem oX5_leastAcross (l : Launch) : zOK l RX5 cX5_leastAcross rX5_leastAcross (some .int) (tX5_leastAcross, fX5, gX5, [(78, 1, 5, kX5_isCut), (109, 0, 5, kX5_freshen), (71, 2, 100, kX5_isIn), (124, 3, 5, kX5_leastOn)], [], 1) := ⟨tX5_leastAcross_ok, fX5_ok, gX5_ok, List.forall_mem_cons.mpr ⟨⟨yX5_isCut, cX5_isCut, 2, (some .boolean), rX5_isCut, zX5_isCut l, by decide +kernel, ykX5_isCut, lkX5_78⟩, List.forall_mem_cons.mpr ⟨⟨yX5_freshen, cX5_freshen, 1, none, rX5_freshen, zX5_freshen l, by decide +kernel, ykX5_freshen, lkX5_109⟩, List.forall_mem_cons.mpr ⟨⟨yX5_isIn, cX5_isIn, 2, (some .boolean), rX5_isIn, zX5_isIn l, by decide +kernel, ykX5_isIn, lkX5_71⟩, List.forall_mem_cons.mpr ⟨⟨yX5_leastOn, cX5_leastOn, 7, (some .int), rX5_leastOn, zX5_leastOn l, by decide +kernel, ykX5_leastOn, lkX5_124⟩, fun _ h => absurd h List.not_mem_nil⟩⟩⟩⟩, by decide +kernel, rfl⟩
set_option maxRecDepth 100000 in
set_option maxHeartbeats 4000000 in
theorem wX5_leastAcross {CX5_isCut : zK} (HX5_isCut : iX5_isCut CX5_isCut) {CX5_freshen : zK} (HX5_freshen : iX5_freshen CX5_freshen) {CX5_isIn : zK} (HX5_isIn : iX5_isIn CX5_isIn) {CX5_leastOn : zK} (HX5_leastOn : iX5_leastOn CX5_leastOn) {σ : zS} {a : AS} {x : Int32} {r : Int32} {a' : AS} {P : zP} (hσ : mSt a σ) (hr : rLA x a r a') (hp : ∀ σ', mSt a' σ' → P (some (.inl r)) σ') {Z : zH} (hZ : zcl (tX5_leastAcross, fX5, gX5, [(78, 1, 5, CX5_isCut), (109, 0, 5, CX5_freshen), (71, 2, 100, CX5_isIn), (124, 3, 5, CX5_leastOn)], [], 1) P Z) : Z (σ) 0 [some (.inr (.inl 0)), some (.inl x), none, none, none, none] [] := by
  have hσ0 := hσ
  obtain ⟨n, K, L, F, ob⟩ := a
  obtain ⟨yn, ycap, ych, ycf, yct, ycw, yfl, ysd, ypa, yla, ybw, ywo, yns, ynw, rfl, hG, hR, hF, hT⟩ := hσ
  dsimp only at hG hR hF hT
  have hn1 := hG.2.1
  have hn2 := hG.2.2.1
  refine hZ [19] 60 _ _ _ _ ?_
  refine HX5_isCut hG.1 hn1 hn2 ?_
  rcases hr with ⟨q, rfl, rfl⟩ | ⟨S, w0, h0, h1, rfl, hrF, hLA, rfl⟩
  · rw [q]
    exact And.intro (fun c => absurd rfl c) (fun _ => hp _ hσ0)
  · rw [okC_nI hn2 h0 h1]
    refine And.intro (fun _ => ?_) (fun c => absurd c (by decide))
    refine HX5_freshen hσ0 (fun a2 σ' hrF2 hc => ?_)
    have ea := rF_uniq hrF2 hrF
    subst ea
    have hc0 := hc
    obtain ⟨q1, q2, q3⟩ := rF_some hrF
    obtain ⟨n', K', L', F', ob'⟩ := a2
    obtain ⟨zn, zcap, zch, zcf, zct, zcw, zfl, zsd, zpa, zla, zbw, zwo, zns, znw, rfl, hG', hR', hF', hT'⟩ := hc
    dsimp only at hG' hR' hF' hT' q1 q2 q3
    subst q1; subst q2; subst q3
    have hG0 := hG'
    obtain ⟨rfl, hn1', hn2', hcap', hK'⟩ := hG'
    have hT0 := hT'
    obtain ⟨-, hB', -, hpa', hla'⟩ := mT_some hT'
    have hTI := tp_tI K' (by omega : 0 < n')
    have fin := hp _ hc0
    try dsimp only at fin
    have p12n := p12 hn2'
    dsimp only at h1 hLA
    have hlm := fun i j => lm_le (n := n') (p := tp n' K') (tl_le hB'.1 hn2') i j
    have ob2 : ∀ u v o, oLB n' (lm n' (tp n' K') (tl n' K')) S u v o → ∀ b, o = some b → b ≤ 143856 := fun u v o h b e => by
      subst e
      obtain ⟨⟨i, j, -, -, e⟩, -⟩ := h
      have := hlm i j
      omega
    have outer : ∀ u, u ≤ n' → ∀ o o4 o5, oLB n' (lm n' (tp n' K') (tl n' K')) S u 0 o → Z (MW (nI n') zcap zch zcf zct zcw zfl zsd zpa zla zbw zwo zns znw) 19 [some (.inr (.inl 0)), some (.inl (nI S)), some (.inl (lI o)), some (.inl (nI u)), o4, o5] [] := by
      refine dn (Q := fun u => ∀ o o4 o5, oLB n' (lm n' (tp n' K') (tl n' K')) S u 0 o → Z (MW (nI n') zcap zch zcf zct zcw zfl zsd zpa zla zbw zwo zns znw) 19 [some (.inr (.inl 0)), some (.inl (nI S)), some (.inl (lI o)), some (.inl (nI u)), o4, o5] []) ?_ ?_
      · intro o o4 o5 h
        obtain ⟨w, rfl, hw⟩ := oLB_end (by omega) h0 h1 h
        have ew := isLA_uniq hw hLA
        subst ew
        refine hZ [] 40 _ _ _ _ ?_
        exact pk_le n' n' (fun _ => fin) (fun c => absurd c (by omega))
      · intro u hu ih o o4 o5 h
        have inner : ∀ v, v ≤ n' → ∀ o o5, oLB n' (lm n' (tp n' K') (tl n' K')) S u v o → Z (MW (nI n') zcap zch zcf zct zcw zfl zsd zpa zla zbw zwo zns znw) 30 [some (.inr (.inl 0)), some (.inl (nI S)), some (.inl (lI o)), some (.inl (nI u)), some (.inl (nI v)), o5] [] := by
          refine dn (Q := fun v => ∀ o o5, oLB n' (lm n' (tp n' K') (tl n' K')) S u v o → Z (MW (nI n') zcap zch zcf zct zcw zfl zsd zpa zla zbw zwo zns znw) 30 [some (.inr (.inl 0)), some (.inl (nI S)), some (.inl (lI o)), some (.inl (nI u)), some (.inl (nI v)), o5] []) ?_ ?_
          · intro o o5 h
            refine hZ [19] 40 _ _ _ _ ?_
            refine pk_le n' n' (fun _ => ?_) (fun c => absurd c (by omega))
            have h9 := ih o (some (.inl (nI n'))) o5 (oLB_next h)
            rw [nI_succ u] at h9
            exact h9
          · intro v hv ih2 o o5 h
            have no : ¬ (S.testBit u = true ∧ S.testBit v = false) → Z (MW (nI n') zcap zch zcf zct zcw zfl zsd zpa zla zbw zwo zns znw) 67 [some (.inr (.inl 0)), some (.inl (nI S)), some (.inl (lI o)), some (.inl (nI u)), some (.inl (nI v)), o5] [] := by
              intro hq
              refine hZ [30] 40 _ _ _ _ ?_
              refine And.intro (fun _ => ?_) (fun c => absurd (by decide) c)
              have h9 := ih2 o (some (.inl (-1))) (oLB_skip h hq)
              rw [nI_succ v] at h9
              exact h9
            refine hZ [67, 30] 60 _ _ _ _ ?_
            refine pk_le n' v (fun c => absurd c (by omega)) (fun _ => ?_)
            refine HX5_isIn rfl rfl (by omega) (by omega) ?_
            refine bz (fun hb => ?_) (fun hb => ?_)
            · exact no (fun q => by rw [hb] at q; cases q.1)
            · refine HX5_isIn rfl rfl (by omega) (by omega) ?_
              refine bn (fun hb2 => ?_) (fun hb2 => ?_)
              · exact no (fun q => by rw [hb2] at q; cases q.2)
              · have huv : u ≠ v := fun e => by rw [e, hb2] at hb; cases hb
                refine HX5_leastOn (fl := true) hG0 hT0 rfl rfl hu hv huv ?_
                have hl := hlm u v
                have h9 := ih2 _ (some (.inl (nI (lm n' (tp n' K') (tl n' K') u v)))) (oLB_take h hv hb hb2)
                rw [nI_succ v] at h9
                refine And.intro (fun c => absurd c (nI_pos (n := lm n' (tp n' K') (tl n' K') u v) (by omega))) (fun _ => ?_)
                cases o with
                | none =>
                  exact And.intro (fun _ => h9) (fun c => absurd (by decide) c)
                | some w =>
                  have hw := ob2 u v _ h w rfl
                  refine And.intro (fun c => absurd c (nI_pos (by omega))) (fun _ => ?_)
                  refine pk_le w (lm n' (tp n' K') (tl n' K') u v) (fun c => ?_) (fun c => ?_)
                  · rw [show omin (some w) (some (lm n' (tp n' K') (tl n' K') u v)) = some w from congrArg some (if_neg (by omega))] at h9
                    exact h9
                  · rw [show omin (some w) (some (lm n' (tp n' K') (tl n' K') u v)) = some (lm n' (tp n' K') (tl n' K') u v) from congrArg some (if_pos c)] at h9
                    exact h9
        refine hZ [30] 40 _ _ _ _ ?_
        refine pk_le n' u (fun c => absurd c (by omega)) (fun _ => ?_)
        exact inner 0 (by omega) o o5 h
    exact outer 0 (by omega) none none none (fun i j _ q => by obtain ⟨a, -⟩ := q; omega)
theorem zX5_leastAcross (l : Launch) : zMet l yX5_leastAcross cX5_leastAcross 6 (some .int) rX5_leastAcross kX5_leastAcross := zMet_of (by decide) ⟨rfl, rfl⟩ (oX5_leastAcross l) (fun as0 st0 P h => by
  obtain ⟨σ, a, x, r, a', h0, h1, rfl, rfl, hz⟩ := h
  exact ⟨Nat.le_of_ble_eq_true rfl, fun Z hZ => wX5_leastAcross eX5_isCut eX5_freshen eX5_isIn eX5_leastOn h0 h1 hz hZ⟩)

