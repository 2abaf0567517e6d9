section ADDM
variable {V : Prop} {A : Bk} {N n : Nat} {h : im_H} {s : Nat → Int32} {t : Nat → Nat → Int32} {g : Nat → Int32} {w fr' q' : Int32} {Q : Option Value → im_H → Prop}
/-- addMap -/
theorem c_3 (d : Nat) (hD : DI s t) (hR : DR V A N n h s t) (hL : LN h g w fr' q') (hg : ∀ j, j < 3 → g j = t 9 j) (k : ∀ A' h', fD N 2 37 h h' → DR V A' N n h' s (mReadMap s t).2 → A'.1 = A.1 → Q (some (.int (mReadMap s t).1)) h') : gC (gD (d + 3)) 3 [.ref 5] h Q := by
  obtain ⟨o1, o2, h5, rv⟩ := hR.2.1
  have hEd := hR.2.2.2.2.1
  have h25 := hR.1
  have hNE := hR.2.2.2.2.2.1
  obtain ⟨hE3, -⟩ := hD.2.1 _ (Nat.le_refl _)
  obtain ⟨c, hc8, e3⟩ := ps_ex hE3
  have e3n : nv (t 3 (nv (s 10))) = c := by rw [e3, nv_nI (by omega)]
  obtain ⟨mp, lt, h5⟩ : ∃ mp lt, h[5]? = some (.inr (0, [.ref 6, .ref (A.1 (nv (s 10))), mp, lt, .int o1, .int o2])) := ⟨_, _, h5⟩
  have hL' := hL
  obtain ⟨⟨v1, v2, v4, h6⟩, h7⟩ := hL
  have ce := hEd.1
  obtain ⟨ga, hga, hgf⟩ := hEd.2.1
  rw [e3n] at hgf
  unfold mReadMap at k
  have three : ¬ ((1 ≤ t 9 0 ∧ t 9 0 ≤ 99) ∧ (1 ≤ t 9 1 ∧ t 9 1 ≤ 24) ∧ (1 ≤ t 9 2 ∧ t 9 2 ≤ 80)) → gG tb_T (gD (d + 2)) (some .int) cd_3 51 [some (.ref 5)] [] h Q := by
    intro hn
    simp only [if_neg hn] at k
    refine gG.step rfl (fun _ => rfl) ?_
    exact gG.done rfl (fun _ => rfl) (k A h fD.rf hR rfl)
  refine gC.of (q := me_3.2) rfl (Nat.le_of_ble_eq_true rfl) rfl ?_
  refine gG.step (cd := cd_3) rfl (fun _ => rfl) ?_
  refine gG.get rfl (h5) rfl ?_
  refine gG.jmp (tgt := 9) rfl (fun _ => rfl) rfl ?_
  refine gG.step rfl (fun _ => rfl) ?_
  refine gG.get rfl (h5) rfl ?_
  iterate 3 refine gG.step rfl (fun _ => rfl) ?_
  refine gG.vir rfl (h6) rfl rfl (Nat.le_of_ble_eq_true rfl) rfl rfl (Nat.le_of_ble_eq_true rfl) ?_
  refine c_322 d (j := 0) hL' (by decide) _ ?_
  rw [hg 0 (by decide)]
  show gG _ _ _ _ 20 _ [Value.int (bI (decide (1 ≤ t 9 0 ∧ t 9 0 ≤ 99)))] h Q
  by_cases c0 : 1 ≤ t 9 0 ∧ t 9 0 ≤ 99
  case neg =>
    rw [decide_eq_false c0]
    refine gG.ifc (tgt := 51) rfl rfl (fun _ => three (fun z => c0 z.1)) (fun c => absurd (by decide) c)
  case pos =>
  rw [decide_eq_true c0]
  refine gG.ifc (tgt := 51) rfl rfl (fun c => absurd c (by decide)) (fun _ => ?_)
  refine gG.step rfl (fun _ => rfl) ?_
  refine gG.get rfl (h5) rfl ?_
  iterate 3 refine gG.step rfl (fun _ => rfl) ?_
  refine gG.vir rfl (h6) rfl rfl (Nat.le_of_ble_eq_true rfl) rfl rfl (Nat.le_of_ble_eq_true rfl) ?_
  refine c_322 d (j := 1) hL' (by decide) _ ?_
  rw [hg 1 (by decide)]
  show gG _ _ _ _ 34 _ [Value.int (bI (decide (1 ≤ t 9 1 ∧ t 9 1 ≤ 24)))] h Q
  by_cases c1 : 1 ≤ t 9 1 ∧ t 9 1 ≤ 24
  case neg =>
    rw [decide_eq_false c1]
    refine gG.ifc (tgt := 51) rfl rfl (fun _ => three (fun z => c1 z.2.1)) (fun c => absurd (by decide) c)
  case pos =>
  rw [decide_eq_true c1]
  refine gG.ifc (tgt := 51) rfl rfl (fun c => absurd c (by decide)) (fun _ => ?_)
  refine gG.step rfl (fun _ => rfl) ?_
  refine gG.get rfl (h5) rfl ?_
  iterate 3 refine gG.step rfl (fun _ => rfl) ?_
  refine gG.vir rfl (h6) rfl rfl (Nat.le_of_ble_eq_true rfl) rfl rfl (Nat.le_of_ble_eq_true rfl) ?_
  refine c_322 d (j := 2) hL' (by decide) _ ?_
  rw [hg 2 (by decide)]
  show gG _ _ _ _ 48 _ [Value.int (bI (decide (1 ≤ t 9 2 ∧ t 9 2 ≤ 80)))] h Q
  by_cases c2 : 1 ≤ t 9 2 ∧ t 9 2 ≤ 80
  case neg =>
    rw [decide_eq_false c2]
    refine gG.ifc (tgt := 53) rfl rfl (fun c => absurd c (by decide)) (fun _ => three (fun z => c2 z.2.2))
  case pos =>
  rw [decide_eq_true c2]
  refine gG.ifc (tgt := 53) rfl rfl (fun _ => ?_) (fun c => absurd (by decide) c)
  simp only [if_pos (show (1 ≤ t 9 0 ∧ t 9 0 ≤ 99) ∧ (1 ≤ t 9 1 ∧ t 9 1 ≤ 24) ∧ (1 ≤ t 9 2 ∧ t 9 2 ≤ 80) from ⟨c0, c1, c2⟩)] at k
  refine gG.step rfl (fun _ => rfl) ?_
  refine gG.get rfl (h5) rfl ?_
  refine gG.step rfl (fun _ => rfl) ?_
  refine gG.get rfl (h5) rfl ?_
  refine gG.get rfl (h6) rfl ?_
  refine gG.step rfl (fun _ => rfl) ?_
  refine gG.iald (j := 0) rfl h7 rfl (by decide) (by decide) ?_
  rw [hg 0 (by decide)]
  refine gG.vir rfl (ce) rfl rfl (Nat.le_of_ble_eq_true rfl) rfl rfl (Nat.le_of_ble_eq_true rfl) ?_
  refine c_129 (d + 1) hEd hE3 (t 9 0) _ ?_
  show gG _ _ _ _ 69 _ [va_rf ((mMapO t (nv (s 10)) (t 9 0)).map A.2.1)] h Q
  cases hf : mMapO t (nv (s 10)) (t 9 0) with
  | some o =>
    rw [hf] at k
    refine gG.step rfl (fun _ => rfl) ?_
    refine gG.step rfl (fun _ => rfl) ?_
    exact gG.done rfl (fun _ => rfl) (k A h fD.rf hR rfl)
  | none =>
    rw [hf] at k
    dsimp only at k
    refine gG.jmp (tgt := 74) rfl (fun _ => rfl) rfl ?_
    refine gG.step rfl (fun _ => rfl) ?_
    refine gG.get rfl (h5) rfl ?_
    refine gG.get rfl (ce) rfl ?_
    rw [e3] at k ⊢
    refine gG.step rfl (fun _ => rfl) ?_
    by_cases h8 : c = 8
    · have hc3 : nI c = 8 := by rw [h8]; rfl
      simp only [if_pos hc3] at k
      refine gG.icmp (tgt := 88) rfl rfl (fun y => absurd ((c_lt (b := 8) (by omega) (by decide)).mp y) (by omega)) (fun _ => ?_)
      refine gG.step rfl (fun _ => rfl) ?_
      exact gG.done rfl (fun _ => rfl) (k A h fD.rf hR rfl)
    · have hc3 : ¬ nI c = 8 := fun y => h8 ((nI_eq (b := 8) (by omega) (by decide)).mp y)
      simp only [if_neg hc3, nv_nI (show c < 2 ^ 31 by omega)] at k
      refine gG.icmp (tgt := 88) rfl rfl (fun _ => ?_) (fun y => absurd ((c_lt (b := 8) (by omega) (by decide)).mpr (by omega)) y)
      have hel : A.1 (nv (s 10)) < h.length := (List.getElem?_eq_some_iff.mp ce).1
      have hal : A.1 (nv (s 10)) + 1 < h.length := (List.getElem?_eq_some_iff.mp hga).1
      refine gG.step rfl (fun _ => rfl) ?_
      refine gG.step (pc' := 92) (st' := [.ref h.length, .ref 5]) (h' := h ++ [.inr (6, (tb_F 6).map defaultValue)]) rfl (fun _ => rfl) ?_
      have ap : ∀ (x : im_H) (k : Nat), k < h.length → (h ++ x)[k]? = h[k]? := fun x k hk => List.getElem?_append_left hk
      iterate 2 refine gG.step rfl (fun _ => rfl) ?_
      refine gG.get rfl ((ap _ 5 (by omega)).trans h5) rfl ?_
      refine gG.get rfl ((ap _ 6 (by omega)).trans h6) rfl ?_
      refine gG.step rfl (fun _ => rfl) ?_
      refine gG.iald (j := 0) rfl ((ap _ 7 (by omega)).trans h7) rfl (by decide) (by decide) ?_
      rw [hg 0 (by decide)]
      refine gG.step rfl (fun _ => rfl) ?_
      refine gG.get rfl ((ap _ 5 (by omega)).trans h5) rfl ?_
      refine gG.get rfl ((ap _ 6 (by omega)).trans h6) rfl ?_
      refine gG.step rfl (fun _ => rfl) ?_
      refine gG.iald (j := 1) rfl ((ap _ 7 (by omega)).trans h7) rfl (by decide) (by decide) ?_
      rw [hg 1 (by decide)]
      refine gG.step rfl (fun _ => rfl) ?_
      refine gG.get rfl ((ap _ 5 (by omega)).trans h5) rfl ?_
      refine gG.get rfl ((ap _ 6 (by omega)).trans h6) rfl ?_
      refine gG.step rfl (fun _ => rfl) ?_
      refine gG.iald (j := 2) rfl ((ap _ 7 (by omega)).trans h7) rfl (by decide) (by decide) ?_
      rw [hg 2 (by decide)]
      refine gG.inv rfl (fun _ => rfl) (Nat.le_of_ble_eq_true rfl) rfl rfl (Nat.le_of_ble_eq_true rfl) ?_
      refine c_384 d h (t 9 0) (t 9 1) (t 9 2) _ ?_
      obtain ⟨NM, hNM⟩ : ∃ NM : im_C, NM = .inr (6, [.int (t 9 0), .int (t 9 1), .int (t 9 2), .ref (h.length + 1), .int 0, .int 0, .int 0]) := ⟨_, rfl⟩
      rw [← hNM]
      show gG _ _ _ _ 123 _ [Value.ref h.length, Value.ref 5] (h ++ [NM, nArr 3 30]) Q
      have g5 := (ap [NM, nArr 3 30] 5 (by omega)).trans h5
      refine gG.put (k := 2) rfl g5 (Nat.le_of_ble_eq_true rfl) rfl rfl ?_
      iterate 2 refine gG.step rfl (fun _ => rfl) ?_
      refine gG.put (k := 3) rfl (set_at g5) (Nat.le_of_ble_eq_true rfl) rfl rfl ?_
      rw [List.set_set]
      have q5 : ((h ++ [NM, nArr 3 30]).set 5 (.inr (0, [.ref 6, .ref (A.1 (nv (s 10))), .ref h.length, .null, .int o1, .int o2])))[5]? = some (.inr (0, [.ref 6, .ref (A.1 (nv (s 10))), .ref h.length, .null, .int o1, .int o2])) := set_at g5
      have qo : ∀ k, k ≠ 5 → k < h.length → ((h ++ [NM, nArr 3 30]).set 5 (.inr (0, [.ref 6, .ref (A.1 (nv (s 10))), .ref h.length, .null, .int o1, .int o2])))[k]? = h[k]? := fun k hk hl => by rw [set_ne hk, ap _ _ hl]
      have qn : ((h ++ [NM, nArr 3 30]).set 5 (.inr (0, [.ref 6, .ref (A.1 (nv (s 10))), .ref h.length, .null, .int o1, .int o2])))[h.length]? = some NM := by rw [set_ne (by omega)]; exact ap_at
      have qn1 : ((h ++ [NM, nArr 3 30]).set 5 (.inr (0, [.ref 6, .ref (A.1 (nv (s 10))), .ref h.length, .null, .int o1, .int o2])))[h.length + 1]? = some (nArr 3 30) := by
        rw [set_ne (by omega), List.getElem?_append_right (by omega), show h.length + 1 - h.length = 1 by omega]
        rfl
      have qf : fD N 2 37 h ((h ++ [NM, nArr 3 30]).set 5 (.inr (0, [.ref 6, .ref (A.1 (nv (s 10))), .ref h.length, .null, .int o1, .int o2]))) := by
        have hsz : im_sz (h ++ [NM, nArr 3 30]) = im_sz h + 37 := by
          rw [show h ++ [NM, nArr 3 30] = (h ++ [NM]) ++ [nArr 3 30] by simp, im_sz_push, im_sz_push, hNM]
          rfl
        refine fD.set (h' := h ++ [NM, nArr 3 30]) ⟨fun k hk hk2 => ?_, ?_, ?_, ?_⟩ g5 rfl (Or.inr ⟨by decide, by decide⟩)
        · have : N ≤ h.length := by omega
          rw [ap _ _ (by omega)]
        · rw [List.length_append]; omega
        · rw [List.length_append]; exact Nat.le_refl _
        · rw [hsz]; exact Nat.le_refl _
      show gG _ _ _ _ 131 _ [] ((h ++ [NM, nArr 3 30]).set 5 (.inr (0, [.ref 6, .ref (A.1 (nv (s 10))), .ref h.length, .null, .int o1, .int o2]))) Q
      generalize (h ++ [NM, nArr 3 30]).set 5 (.inr (0, [.ref 6, .ref (A.1 (nv (s 10))), .ref h.length, .null, .int o1, .int o2])) = H3 at q5 qo qn qn1 qf
      have qe : H3[A.1 (nv (s 10))]? = some (.inr (2, [.ref (A.1 (nv (s 10)) + 1), .int (nI c)])) := by rw [qo _ (by omega) hel, ← e3]; exact ce
      have qa : H3[A.1 (nv (s 10)) + 1]? = some (.inl (9, 8, .inr (.inr (.inr (.inr ga))))) := by rw [qo _ (by omega) hal]; exact hga
      refine gG.step rfl (fun _ => rfl) ?_
      refine gG.get rfl (q5) rfl ?_
      refine gG.get rfl (qe) rfl ?_
      refine gG.step rfl (fun _ => rfl) ?_
      refine gG.get rfl (q5) rfl ?_
      refine gG.get rfl (qe) rfl ?_
      refine gG.step rfl (fun _ => rfl) ?_
      refine gG.get rfl (q5) rfl ?_
      refine gG.aast (j := c) rfl qa (by rw [qn, hNM]) rfl (by omega) (by decide) ?_
      have q5b : (H3.set (A.1 (nv (s 10)) + 1) (.inl (9, 8, .inr (.inr (.inr (.inr (va_up ga c (some h.length))))))))[5]? = H3[5]? := set_ne (by omega)
      have qeb : (H3.set (A.1 (nv (s 10)) + 1) (.inl (9, 8, .inr (.inr (.inr (.inr (va_up ga c (some h.length))))))))[A.1 (nv (s 10))]? = some (.inr (2, [.ref (A.1 (nv (s 10)) + 1), .int (nI c)])) := by rw [set_ne (by omega)]; exact qe
      refine gG.step rfl (fun _ => rfl) ?_
      refine gG.get rfl (q5b.trans q5) rfl ?_
      refine gG.step rfl (fun _ => rfl) ?_
      refine gG.get rfl qeb rfl ?_
      iterate 2 refine gG.step rfl (fun _ => rfl) ?_
      refine gG.put (k := 1) rfl qeb (Nat.le_of_ble_eq_true rfl) rfl rfl ?_
      refine gG.step rfl (fun _ => rfl) ?_
      refine gG.done rfl (fun _ => rfl) (k (bM A (8 * nv (s 10) + c) h.length) _ ((qf.set (y := .inl (9, 8, .inr (.inr (.inr (.inr (va_up ga c (some h.length))))))) qa rfl (Or.inl (by omega))).set qeb rfl (Or.inl (by omega))) ?_ rfl)
      refine DR_map (o1 := o1) (o2 := o2) hD hR e3n (by omega) rfl (fun j hj => ?_) ?_ (fun j M a b hM => ?_) ?_ (by omega) (fun k k5 ke ka x hx => ?_) ?_ rv ?_ ⟨va_up ga c (some h.length), ?_, fun k hk => ?_, va_up_self _ _ _⟩ ?_ ?_
      · rcases hj with rfl | rfl <;> rfl
      · rw [va_up_ne _ _ (by decide), va_up_ne _ _ (by decide), va_up_ne _ _ (by decide), va_up_ne _ _ (by decide), va_up_self, pk_us, nI_1]
      · have : j = 4 ∨ j = 5 ∨ j = 6 ∨ j = 7 := by omega
        rcases this with rfl | rfl | rfl | rfl
        · rw [va_up_ne _ _ (by decide), va_up_ne _ _ (by decide), va_up_ne _ _ (by decide), va_up_self, pk_un hM]
        · rw [va_up_ne _ _ (by decide), va_up_ne _ _ (by decide), va_up_self, pk_un hM]
        · rw [va_up_ne _ _ (by decide), va_up_self, pk_un hM]
        · rw [va_up_self, pk_un hM]
      · rw [va_up_self, pk_us]
      · have hkl : k < h.length := (List.getElem?_eq_some_iff.mp hx).1
        rw [set_ne ke, set_ne ka, qo k k5 hkl]
        exact hx
      · rw [set_ne (by omega), q5b]
        exact q5
      · rw [set_at qeb, ← nI_1]
        rfl
      · rw [set_ne (by omega)]
        exact set_at qa
      · rw [va_up_ne _ _ (by omega)]
        exact hgf k hk
      · rw [set_ne (by omega), set_ne (by omega), qn, hNM]
        rw [va_up_ne _ _ (by decide), va_up_ne _ _ (by decide), va_up_ne _ _ (by decide), va_up_self, pk_us, va_up_ne _ _ (by decide), va_up_ne _ _ (by decide), va_up_self, pk_us, va_up_ne _ _ (by decide), va_up_self, pk_us]
      · rw [set_ne (by omega), set_ne (by omega)]
        exact qn1
end ADDM
