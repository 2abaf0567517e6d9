theorem cF_congr {g g' : Nat → Int32} {oc pi pl : Int32} {sh : Value} (e : ∀ w, w < 14 → g' w = g w) : cF g' oc pi sh pl = cF g oc pi sh pl := by
  unfold cF
  rw [e 0 (by decide), e 1 (by decide), e 2 (by decide), e 3 (by decide), e 4 (by decide), e 5 (by decide), e 6 (by decide), e 7 (by decide), e 8 (by decide), e 9 (by decide), e 10 (by decide), e 11 (by decide)]
theorem nW_new {g : Nat → Int32} : ∀ w, w < 14 → mNew g w = nW (g 0) (g 1) (g 2) (g 3) (g 4) w := by
  intro w hw
  have : w = 0 ∨ w = 1 ∨ w = 2 ∨ w = 3 ∨ w = 4 ∨ w = 5 ∨ w = 6 ∨ w = 7 ∨ w = 8 ∨ w = 9 ∨ w = 10 ∨ w = 11 ∨ w = 12 ∨ w = 13 := by omega
  rcases this with rfl | rfl | rfl | rfl | rfl | rfl | rfl | rfl | rfl | rfl | rfl | rfl | rfl | rfl <;> rfl
section ADDF
variable {V : Prop} {A : Bk} {N n : Nat} {h : im_H} {s : Nat → Int32} {t : Nat → Nat → Int32} {g : Nat → Int32} {w fr' q' : Int32} {Q : Option Value → im_H → Prop}
/-- addField -/
theorem c_4 (d : Nat) (hD : DI s t) (hR : DR V A N n h s t) (hL : LN h g w fr' q') (hg : ∀ j, j < 5 → g j = t 9 j) (k : ∀ A' h', fD N 1 17 h h' → DR V A' N n h' (if (mReadField s t (mLast s t)).1 = 0 then upd (mReadField s t (mLast s t)).2.1 27 0 else (mReadField s t (mLast s t)).2.1) (mReadField s t (mLast s t)).2.2 → A'.1 = A.1 → Q (some (.int (mReadField s t (mLast s t)).1)) h') : gC (gD (d + 4)) 4 [.ref 5] h Q := by
  cases hm : mLast s t with
  | none =>
    rw [hm] at k
    obtain ⟨o1, o2, h5, -⟩ := hR.2.1
    have h5 : h[5]? = some (.inr (0, [.ref 6, .ref (A.1 (nv (s 10))), .null, va_rf ((lastF s t).map fun z => A.2.2 z.1 z.2), .int o1, .int o2])) := by
      rw [h5]
      unfold dC
      rw [hm]
      rfl
    refine gC.of (q := me_4.2) rfl (Nat.le_of_ble_eq_true rfl) rfl ?_
    refine gG.step (cd := cd_4) rfl (fun _ => rfl) ?_
    refine gG.get rfl (h5) rfl ?_
    refine gG.step rfl (fun _ => rfl) ?_
    refine gG.step rfl (fun _ => rfl) ?_
    exact gG.done rfl (fun _ => rfl) (k A h fD.rf hR rfl)
  | some m =>
    obtain ⟨hM, hNm, hmp, lt, o1, o2, h5, edc, rv⟩ := hR.map hD hm
    have h7m := hM.2.2.2.1
    obtain ⟨c, hc30, e7⟩ := ps_ex h7m
    have e7n : nv (t 7 m) = c := by rw [e7, nv_nI (by omega)]
    have h25 := hR.1
    have hL' := hL
    obtain ⟨⟨v1, v2, v4, h6⟩, h7⟩ := hL
    rw [hm] at k
    have k := k
    unfold mReadField at k
    dsimp only at k
    refine gC.of (q := me_4.2) rfl (Nat.le_of_ble_eq_true rfl) rfl ?_
    refine gG.step (cd := cd_4) rfl (fun _ => rfl) ?_
    refine gG.get rfl (h5) rfl ?_
    refine gG.jmp (tgt := 9) rfl (fun _ => rfl) rfl ?_
    refine gG.step rfl (fun _ => rfl) ?_
    refine gG.vir rfl (h5) rfl rfl (Nat.le_of_ble_eq_true rfl) rfl rfl (Nat.le_of_ble_eq_true rfl) ?_
    refine c_5 d hD hR hm hL' hg _ ?_
    show gG _ _ _ _ 13 _ [Value.int (bI (decide (t 9 0 ≤ 99 ∧ (1 ≤ t 9 1 ∧ t 9 1 ≤ t 5 m) ∧ (1 ≤ t 9 2 ∧ t 9 2 ≤ t 6 m) ∧ ((if t 9 0 ≤ 0 then 0 else 1) ≤ t 9 3 ∧ t 9 3 ≤ 80) ∧ t 9 4 ≤ 15)))] h Q
    by_cases hc : t 9 0 ≤ 99 ∧ (1 ≤ t 9 1 ∧ t 9 1 ≤ t 5 m) ∧ (1 ≤ t 9 2 ∧ t 9 2 ≤ t 6 m) ∧ ((if t 9 0 ≤ 0 then 0 else 1) ≤ t 9 3 ∧ t 9 3 ≤ 80) ∧ t 9 4 ≤ 15
    case neg =>
      simp only [if_neg hc] at k
      rw [decide_eq_false hc]
      refine gG.ifc (tgt := 18) rfl rfl (fun c => absurd c (by decide)) (fun _ => ?_)
      refine gG.step rfl (fun _ => rfl) ?_
      exact gG.done rfl (fun _ => rfl) (k A h fD.rf hR rfl)
    case pos =>
    simp only [if_pos hc] at k
    rw [decide_eq_true hc]
    refine gG.ifc (tgt := 18) rfl rfl (fun _ => ?_) (fun c => absurd (by decide) c)
    refine gG.step rfl (fun _ => rfl) ?_
    refine gG.get rfl (h5) rfl ?_
    refine gG.get rfl (h6) rfl ?_
    refine gG.step rfl (fun _ => rfl) ?_
    refine gG.iald (j := 0) rfl h7 rfl (by decide) (by decide) ?_
    rw [hg 0 (by decide)]
    refine gG.step rfl (fun _ => rfl) ?_
    refine gG.step rfl (fun _ => rfl) ?_
    refine gG.get rfl (h5) rfl ?_
    refine gG.get rfl (h6) rfl ?_
    refine gG.step rfl (fun _ => rfl) ?_
    refine gG.iald (j := 1) rfl h7 rfl (by decide) (by decide) ?_
    rw [hg 1 (by decide)]
    refine gG.step rfl (fun _ => rfl) ?_
    refine gG.step rfl (fun _ => rfl) ?_
    refine gG.get rfl (h5) rfl ?_
    refine gG.get rfl (h6) rfl ?_
    refine gG.step rfl (fun _ => rfl) ?_
    refine gG.iald (j := 2) rfl h7 rfl (by decide) (by decide) ?_
    rw [hg 2 (by decide)]
    refine gG.step rfl (fun _ => rfl) ?_
    refine gG.step rfl (fun _ => rfl) ?_
    refine gG.get rfl (h5) rfl ?_
    refine gG.get rfl (h6) rfl ?_
    refine gG.step rfl (fun _ => rfl) ?_
    refine gG.iald (j := 3) rfl h7 rfl (by decide) (by decide) ?_
    rw [hg 3 (by decide)]
    refine gG.step (L' := [some (.ref 5), some (.int (t 9 0)), some (.int (t 9 1)), some (.int (t 9 2)), some (.int (t 9 3))]) rfl (fun _ => rfl) ?_
    refine gG.step rfl (fun _ => rfl) ?_
    refine gG.get rfl (h5) rfl ?_
    refine gG.step rfl (fun _ => rfl) ?_
    refine gG.vir rfl (hmp.2.1) rfl rfl (Nat.le_of_ble_eq_true rfl) rfl rfl (Nat.le_of_ble_eq_true rfl) ?_
    refine c_385 (d + 2) hmp h7m (t 9 0) ?_
    rw [cNm_eq hM]
    show gG _ _ _ _ 67 _ [va_rf ((mFldO t m (t 9 0)).map (A.2.2 m))] h Q
    cases hf : mFldO t m (t 9 0) with
    | some o =>
      rw [hf] at k
      refine gG.jmp (tgt := 90) rfl (fun _ => rfl) rfl ?_
      refine gG.step rfl (fun _ => rfl) ?_
      exact gG.done rfl (fun _ => rfl) (k A h fD.rf hR rfl)
    | none =>
      rw [hf] at k
      dsimp only at k
      refine gG.step rfl (fun _ => rfl) ?_
      iterate 2 refine gG.step rfl (fun _ => rfl) ?_
      refine gG.get rfl (h5) rfl ?_
      refine gG.get rfl (hmp.2.1) rfl ?_
      iterate 4 refine gG.step rfl (fun _ => rfl) ?_
      refine gG.step rfl (fun _ => rfl) ?_
      show gG _ _ _ _ 84 _ [Value.int (t 9 3 + 1), Value.int (t 9 2), Value.int (t 9 1), Value.int (t 7 m), Value.ref 5] h Q
      rw [e7]
      rw [Int32.mul_one, e7] at k
      refine gG.vir rfl (h5) rfl rfl (Nat.le_of_ble_eq_true rfl) rfl rfl (Nat.le_of_ble_eq_true rfl) ?_
      have he := he_new (t := t) (m := m) (row := t 9 1) (col := t 9 2) (wd := t 9 3 + 1) h7m.2
      rw [e7n] at he
      refine c_6 d hD hR hm (q := c) (by omega) he (fun h1 hfd hk1 hR1 => ?_)
      have hfd1 : fD N 1 17 h h1 := ⟨hfd.1, hfd.2.1, Nat.le_trans hfd.2.2.1 (by omega), Nat.le_trans hfd.2.2.2 (by omega)⟩
      cases hz : (mLies s t m (nI c) (t 9 1) (t 9 2) (t 9 2 + (t 9 3 + 1))).1 with
      | true =>
        simp only [if_pos hz] at k
        refine gG.ifc (tgt := 92) rfl rfl (fun c => absurd c (by decide)) (fun _ => ?_)
        refine gG.step rfl (fun _ => rfl) ?_
        exact gG.done rfl (fun _ => rfl) (k A h1 hfd1 hR1 rfl)
      | false =>
        have es := mLies_f hz
        rw [es] at hR1
        have hzn : ¬ (mLies s t m (nI c) (t 9 1) (t 9 2) (t 9 2 + (t 9 3 + 1))).1 = true := by rw [hz]; decide
        simp only [if_neg hzn] at k
        obtain ⟨-, -, hmp1, lt1, p1, p2, h51, edc1, rv1⟩ := hR1.map hD hm
        have h61 : h1[6]? = h[6]? := hk1 6 (by decide)
        have h71 : h1[7]? = h[7]? := hk1 7 (by decide)
        refine gG.ifc (tgt := 92) rfl rfl (fun _ => ?_) (fun c => absurd (by decide) c)
        refine gG.step rfl (fun _ => rfl) ?_
        refine gG.get rfl (h51) rfl ?_
        refine gG.get rfl (hmp1.2.1) rfl ?_
        rw [e7]
        refine gG.step rfl (fun _ => rfl) ?_
        by_cases h30 : c = 30
        · have hc3 : nI c = 30 := by rw [h30]; rfl
          simp only [if_pos hc3] at k
          refine gG.icmp (tgt := 106) rfl rfl (fun y => absurd ((c_lt (b := 30) (by omega) (by decide)).mp y) (by omega)) (fun _ => ?_)
          refine gG.step rfl (fun _ => rfl) ?_
          exact gG.done rfl (fun _ => rfl) (k A h1 hfd1 hR1 rfl)
        · have hc3 : ¬ nI c = 30 := fun y => h30 ((nI_eq (b := 30) (by omega) (by decide)).mp y)
          simp only [if_neg hc3] at k
          refine gG.icmp (tgt := 106) rfl rfl (fun _ => ?_) (fun y => absurd ((c_lt (b := 30) (by omega) (by decide)).mpr (by omega)) y)
          have hml : A.2.1 m < h1.length := (List.getElem?_eq_some_iff.mp hmp1.2.1).1
          obtain ⟨ga, hga, hgf⟩ := hmp1.2.2.1
          have hal : A.2.1 m + 1 < h1.length := (List.getElem?_eq_some_iff.mp hga).1
          refine gG.step rfl (fun _ => rfl) ?_
          refine gG.step (pc' := 110) (st' := [.ref h1.length, .ref 5]) (h' := h1 ++ [.inr (3, (tb_F 3).map defaultValue)]) rfl (fun _ => rfl) ?_
          have ap5 : ∀ (x : im_C) (k : Nat), k < h1.length → (h1 ++ [x])[k]? = h1[k]? := fun x k hk => List.getElem?_append_left hk
          refine gG.step rfl (fun _ => rfl) ?_
          iterate 4 refine gG.step rfl (fun _ => rfl) ?_
          refine gG.step rfl (fun _ => rfl) ?_
          refine gG.get rfl ((ap5 _ 5 (by omega)).trans h51) rfl ?_
          refine gG.get rfl ((ap5 _ 6 (by omega)).trans (h61.trans h6)) rfl ?_
          refine gG.step rfl (fun _ => rfl) ?_
          refine gG.iald (j := 4) rfl ((ap5 _ 7 (by omega)).trans (h71.trans h7)) rfl (by decide) (by decide) ?_
          rw [hg 4 (by decide)]
          refine gG.inv rfl (fun _ => rfl) (Nat.le_of_ble_eq_true rfl) rfl rfl (Nat.le_of_ble_eq_true rfl) ?_
          refine c_192 (d + 1) h1 (t 9 0) (t 9 1) (t 9 2) (t 9 3) (t 9 4) _ ?_
          obtain ⟨NF, hNF⟩ : ∃ NF : im_C, NF = .inr (3, cF (nW (t 9 0) (t 9 1) (t 9 2) (t 9 3) (t 9 4)) 0 0 .null (-1)) := ⟨_, rfl⟩
          rw [← hNF]
          show gG _ _ _ _ 128 _ [Value.ref h1.length, Value.ref 5] (h1 ++ [NF]) Q
          have g5 := (ap5 NF 5 (by omega)).trans h51
          refine gG.put (k := 3) rfl g5 (Nat.le_of_ble_eq_true rfl) rfl rfl ?_
          have q5 : ((h1 ++ [NF]).set 5 (.inr (0, [.ref 6, .ref (A.1 (nv (s 10))), .ref (A.2.1 m), .ref h1.length, .int p1, .int p2])))[5]? = some (.inr (0, [.ref 6, .ref (A.1 (nv (s 10))), .ref (A.2.1 m), .ref h1.length, .int p1, .int p2])) := set_at g5
          have qo : ∀ k, k ≠ 5 → k < h1.length → ((h1 ++ [NF]).set 5 (.inr (0, [.ref 6, .ref (A.1 (nv (s 10))), .ref (A.2.1 m), .ref h1.length, .int p1, .int p2])))[k]? = h1[k]? := fun k hk hl => by rw [set_ne hk, ap5 _ _ hl]
          have qn : ((h1 ++ [NF]).set 5 (.inr (0, [.ref 6, .ref (A.1 (nv (s 10))), .ref (A.2.1 m), .ref h1.length, .int p1, .int p2])))[h1.length]? = some NF := by rw [set_ne (by omega)]; exact ap_at
          have qf : fD N 1 17 h ((h1 ++ [NF]).set 5 (.inr (0, [.ref 6, .ref (A.1 (nv (s 10))), .ref (A.2.1 m), .ref h1.length, .int p1, .int p2]))) := by
            refine fD.set (h' := h1 ++ [NF]) ⟨fun k hk hk2 => ?_, ?_, ?_, ?_⟩ g5 rfl (Or.inr ⟨by decide, by decide⟩)
            · rw [ap5 _ _ (by omega)]; exact hfd.1 k hk hk2
            · rw [List.length_append]; have := hfd.2.1; omega
            · rw [List.length_append]; have := hfd.2.2.1; show h1.length + 1 ≤ _; omega
            · rw [im_sz_push, hNF]; have := hfd.2.2.2; show im_sz h1 + 17 ≤ _; omega
          show gG _ _ _ _ 131 _ [] ((h1 ++ [NF]).set 5 (.inr (0, [.ref 6, .ref (A.1 (nv (s 10))), .ref (A.2.1 m), .ref h1.length, .int p1, .int p2]))) Q
          generalize (h1 ++ [NF]).set 5 (.inr (0, [.ref 6, .ref (A.1 (nv (s 10))), .ref (A.2.1 m), .ref h1.length, .int p1, .int p2])) = H3 at q5 qo qn qf
          have qm : H3[A.2.1 m]? = some (.inr (6, cM A t m 0)) := by rw [qo _ (by omega) hml]; exact hmp1.2.1
          have qa : H3[A.2.1 m + 1]? = some (.inl (6, 30, .inr (.inr (.inr (.inr ga))))) := by rw [qo _ (by omega) hal]; exact hga
          refine gG.step rfl (fun _ => rfl) ?_
          refine gG.get rfl (q5) rfl ?_
          refine gG.get rfl (qm) rfl ?_
          refine gG.step rfl (fun _ => rfl) ?_
          refine gG.get rfl (q5) rfl ?_
          refine gG.get rfl (qm) rfl ?_
          rw [e7]
          refine gG.step rfl (fun _ => rfl) ?_
          refine gG.get rfl (q5) rfl ?_
          refine gG.aast (j := c) rfl qa (by rw [qn, hNF]) rfl (by omega) (by decide) ?_
          have q5b : (H3.set (A.2.1 m + 1) (.inl (6, 30, .inr (.inr (.inr (.inr (va_up ga c (some h1.length))))))))[5]? = H3[5]? := set_ne (by omega)
          have qmb : (H3.set (A.2.1 m + 1) (.inl (6, 30, .inr (.inr (.inr (.inr (va_up ga c (some h1.length))))))))[A.2.1 m]? = some (.inr (6, cM A t m 0)) := by rw [set_ne (by omega)]; exact qm
          refine gG.step rfl (fun _ => rfl) ?_
          refine gG.get rfl (q5b.trans q5) rfl ?_
          refine gG.step rfl (fun _ => rfl) ?_
          refine gG.get rfl qmb rfl ?_
          rw [e7]
          iterate 2 refine gG.step rfl (fun _ => rfl) ?_
          refine gG.put (k := 4) rfl qmb (Nat.le_of_ble_eq_true rfl) rfl rfl ?_
          refine gG.step rfl (fun _ => rfl) ?_
          have t7 : ∀ w', w' < 14 → gF (mTell (va_up t 7 (upd (t 7) m (nI c + 1))) m c 14) m c w' = nW (t 9 0) (t 9 1) (t 9 2) (t 9 3) (t 9 4) w' := by
            intro w' hw'
            show mTell (va_up t 7 (upd (t 7) m (nI c + 1))) m c 14 8 (fI m c w') = _
            rw [mTell_8, if_pos hw', va_up_ne _ _ (by decide)]
            exact nW_new w' hw'
          simp only [if_true, nv_nI (show c < 2 ^ 31 by omega)] at k
          refine gG.done rfl (fun _ => rfl) (k (bF A m c h1.length) _ ((qf.set (y := .inl (6, 30, .inr (.inr (.inr (.inr (va_up ga c (some h1.length))))))) qa rfl (Or.inl (by omega))).set qmb rfl (Or.inl (by omega))) ?_ rfl)
          refine DR_add (o1 := p1) (o2 := p2) hD hR1 hm e7n (by omega) rfl (fun j h7 h8 => ?_) ?_ (fun m' f' w' hf' hw' hne => ?_) ?_ ?_ (fun k k5 km ka x hx => ?_) ?_ rv1 ?_ ⟨va_up ga c (some h1.length), ?_, fun f' hf' => ?_, va_up_self _ _ _⟩ ?_
          · show mTell _ m c 14 j = t j
            rw [mTell_ne _ h8, va_up_ne _ _ h7]
          · show mTell _ m c 14 7 = _
            rw [mTell_ne _ (by decide), va_up_self, nI_1]
          · show mTell _ m c 14 8 _ = _
            rw [mTell_8ne (by omega) hf' hw' hne 14 (by decide), va_up_ne _ _ (by decide)]
          · exact t7 12 (by decide)
          · exact t7 13 (by decide)
          · have hkl : k < h1.length := (List.getElem?_eq_some_iff.mp hx).1
            rw [set_ne km, set_ne ka, qo k k5 hkl]
            exact hx
          · rw [set_ne (by omega), q5b]
            exact q5
          · rw [set_at qmb]
            have hCe : hC (mTell (va_up t 7 (upd (t 7) m (nI c + 1))) m c 14) m = hC t m := by
              unfold hC
              have e1 : mTell (va_up t 7 (upd (t 7) m (nI c + 1))) m c 14 7 m = nI (c + 1) := by rw [mTell_ne _ (by decide), va_up_self, pk_us, nI_1]
              rw [e1, nv_nI (by omega), e7n, sr_last c 0 ?_]
              · congr 1
                refine sr_congr (fun f' _ hf' => ?_)
                unfold mCurP
                rw [mTell_8ne (by omega) (by omega) (by decide) (fun z => absurd z.2 (by omega)) 14 (by decide), va_up_ne _ _ (by decide)]
              · unfold mCurP
                rw [Nat.zero_add]
                have := t7 9 (by decide)
                have e9 : mTell (va_up t 7 (upd (t 7) m (nI c + 1))) m c 14 8 (fI m c 9) = 0 := this
                rw [e9]
                decide
            have eM : (cM A t m 0).set 4 (.int (nI c + 1)) = cM A (mTell (va_up t 7 (upd (t 7) m (nI c + 1))) m c 14) m 0 := by
              unfold cM
              rw [hCe, mTell_ne _ (by decide), mTell_ne _ (by decide), mTell_ne _ (by decide), mTell_ne _ (by decide), va_up_ne _ _ (by decide), va_up_ne _ _ (by decide), va_up_ne _ _ (by decide), va_up_self, pk_us]
              rfl
            exact congrArg (fun l => some (Sum.inr (6, l))) eM
          · rw [set_ne (by omega)]
            exact set_at qa
          · rw [va_up_ne _ _ (by omega)]
            exact hgf f' (by omega)
          · have hml2 : A.2.1 m ≠ h1.length := by omega
            rw [set_ne (by omega), set_ne (by omega), qn, hNF, cF_congr t7]
            rfl
end ADDF
