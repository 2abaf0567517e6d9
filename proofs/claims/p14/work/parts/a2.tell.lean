section TELL3
variable {V : Prop} {A : Bk} {N n : Nat} {h : im_H} {s : Nat → Int32} {t : Nat → Nat → Int32} {m f : Nat} {g : Nat → Int32} {w fr' q' : Int32} {Q : Option Value → im_H → Prop}
/-- Draft's own cell alone has changed, in the two numbers of overlap -/
theorem DR_5 {h' : im_H} {s' : Nat → Int32} {o1 o2 : Int32} (hR : DR V A N n h s t) (hk : ∀ k, k ≠ 5 → h'[k]? = h[k]?) (h5 : h'[5]? = some (.inr (0, dC A s t o1 o2))) (rv : V → o1 = s' 13 ∧ o2 = s' 14) (h10 : s' 10 = s 10) (h27 : s' 27 = s 27) (h19 : s' 19 = s 19) : DR V A N n h' s' t := by
  obtain ⟨r1, -, ⟨⟨b1, b2, w, c, fr', q, r6⟩, ⟨g7, r7⟩⟩, r0, ⟨c1, ⟨g, c2, c3⟩, c4⟩, dd⟩ := hR
  have hN : ∀ k, 25 ≤ k → h'[k]? = h[k]? := fun k hk' => hk k (by omega)
  have eL : mLast s' t = mLast s t := by unfold mLast; rw [h10]
  have eF : lastF s' t = lastF s t := by unfold lastF; rw [eL]
  have eP : PD s' t = PD s t := by
    funext m f oc pi
    unfold PD
    rw [eF, h27, h19]
  have d1 := dd.1
  unfold DR
  rw [h10, eP]
  refine ⟨r1, ⟨o1, o2, ?_, rv⟩, ⟨⟨b1, b2, w, c, fr', q, by rw [hk 6 (by decide)]; exact r6⟩, ⟨g7, by rw [hk 7 (by decide)]; exact r7⟩⟩, by rw [hk 1 (by decide)]; exact r0, ⟨by rw [hN _ (by omega)]; exact c1, ⟨g, by rw [hN _ (by omega)]; exact c2, c3⟩, fun k hk' => CMp_fr hN (c4 k hk')⟩, dd⟩
  rw [h5]
  unfold dC
  rw [eL, eF, h10]
/-- the latest map -/
theorem DR.map (hD : DI s t) (hR : DR V A N n h s t) (hm : mLast s t = some m) : MapI t m ∧ N ≤ A.2.1 m ∧ CMp A h t m 0 (fun _ => -1) (PD s t m) (dTx (nv (s 10)) (t 1)) ∧ ∃ lt o1 o2, h[5]? = some (.inr (0, [.ref 6, .ref (A.1 (nv (s 10))), .ref (A.2.1 m), lt, .int o1, .int o2])) ∧ dC A s t o1 o2 = [.ref 6, .ref (A.1 (nv (s 10))), .ref (A.2.1 m), lt, .int o1, .int o2] ∧ (V → o1 = s 13 ∧ o2 = s 14) := by
  obtain ⟨m48, hM, h1, h2, h3⟩ := mLast_some hD hm
  obtain ⟨r1, ⟨o1, o2, r5, rv⟩, -, r0, ⟨c1, c2, c4⟩, ⟨d1, d2, d3, d4⟩⟩ := hR
  obtain ⟨k0, hk0⟩ : ∃ k0, m = 8 * nv (s 10) + k0 := ⟨m - 8 * nv (s 10), by omega⟩
  have hmp := c4 k0 (by omega)
  have u0 := (d2 k0 (by omega)).1
  rw [← hk0] at hmp u0
  have edc : dC A s t o1 o2 = [.ref 6, .ref (A.1 (nv (s 10))), .ref (A.2.1 m), va_rf ((lastF s t).map fun z => A.2.2 z.1 z.2), .int o1, .int o2] := by
    unfold dC
    rw [hm]
    rfl
  exact ⟨hM, u0, hmp, _, o1, o2, by rw [← edc]; exact r5, edc, rv⟩
/-- liesFree -/
theorem c_6 (d : Nat) (hD : DI s t) (hR : DR V A N n h s t) (hm : mLast s t = some m) {q : Nat} (hq : q ≤ nv (t 7 m)) {row col wd : Int32} (he : cOvO t m q row col wd = mOvrO t m (nI q) row col (col + wd)) (k : ∀ h', fD N 0 0 h h' → (∀ k, k ≠ 5 → h'[k]? = h[k]?) → DR V A N n h' (mLies s t m (nI q) row col (col + wd)).2 t → Q (some (.int (bI (!(mLies s t m (nI q) row col (col + wd)).1)))) h') : gC (gD (d + 3)) 6 [.ref 5, .int (nI q), .int row, .int col, .int wd] h Q := by
  obtain ⟨hM, hNm, hmp, lt, o1, o2, h5, edc, rv⟩ := hR.map hD hm
  have h7 := hM.2.2.2.1
  have h30 := h7.2
  unfold mLies at k
  refine gC.of (q := me_6.2) rfl (Nat.le_of_ble_eq_true rfl) rfl ?_
  iterate 6 refine gG.step (cd := cd_6) rfl (fun _ => rfl) ?_
  refine gG.get rfl (h5) rfl ?_
  refine gG.get rfl (hmp.2.1) rfl ?_
  show gG _ _ _ _ 13 _ [Value.int (t 6 m), Value.int (col + wd - 1)] h Q
  by_cases hc : col + wd - 1 ≤ t 6 m
  case neg =>
    rw [if_neg hc] at k
    refine gG.icmp (tgt := 18) rfl rfl (fun c => absurd (of_decide_eq_true c) hc) (fun _ => ?_)
    refine gG.step rfl (fun _ => rfl) ?_
    exact gG.done rfl (fun _ => rfl) (k h fD.rf (fun _ _ => rfl) hR)
  case pos =>
  rw [if_pos hc] at k
  refine gG.icmp (tgt := 18) rfl rfl (fun _ => ?_) (fun c => absurd (decide_eq_true hc) c)
  refine gG.step rfl (fun _ => rfl) ?_
  refine gG.get rfl (h5) rfl ?_
  iterate 4 refine gG.step rfl (fun _ => rfl) ?_
  refine gG.vir rfl (hmp.2.1) rfl rfl (Nat.le_of_ble_eq_true rfl) rfl rfl (Nat.le_of_ble_eq_true rfl) ?_
  refine c_388 d hmp h7 hq row col wd ?_
  rw [he]
  show gG _ _ _ _ 30 _ [Value.int (oI (mOvrO t m (nI q) row col (col + wd)))] h Q
  cases ho : mOvrO t m (nI q) row col (col + wd) with
  | none =>
    rw [ho] at k
    refine gG.step rfl (fun _ => rfl) ?_
    iterate 2 refine gG.step rfl (fun _ => rfl) ?_
    refine gG.icmp (tgt := 40) rfl rfl (fun c => absurd rfl (c_ne.mp c)) (fun _ => ?_)
    refine gG.step rfl (fun _ => rfl) ?_
    exact gG.done rfl (fun _ => rfl) (k h fD.rf (fun _ _ => rfl) hR)
  | some o =>
    rw [ho] at k
    dsimp only at k
    have ho30 : o < 30 := by have := (mOvrO_some ho).1; omega
    refine gG.step (L' := [some (.ref 5), some (.int (nI q)), some (.int row), some (.int col), some (.int wd), some (.int (nI o))]) rfl (fun _ => rfl) ?_
    iterate 2 refine gG.step rfl (fun _ => rfl) ?_
    have hne : ¬ nI o = -1 := by
      intro z
      have := nI_pos' (n := o) (by omega)
      rw [z] at this
      exact absurd this (by decide)
    refine gG.icmp (tgt := 40) rfl rfl (fun _ => ?_) (fun c => absurd (c_ne.mpr hne) c)
    iterate 2 refine gG.step rfl (fun _ => rfl) ?_
    refine gG.put (k := 4) rfl h5 (Nat.le_of_ble_eq_true rfl) rfl rfl ?_
    iterate 2 refine gG.step rfl (fun _ => rfl) ?_
    refine gG.put (k := 5) rfl (set_at h5) (Nat.le_of_ble_eq_true rfl) rfl rfl ?_
    rw [List.set_set]
    refine gG.step rfl (fun _ => rfl) ?_
    refine gG.done rfl (fun _ => rfl) (k _ (fD.rf.set h5 rfl (Or.inr ⟨by decide, by decide⟩)) (fun k hk => set_ne hk) (DR_5 (o1 := nI o) (o2 := nI q) hR (fun k hk => set_ne hk) ?_ (fun _ => ⟨rfl, rfl⟩) rfl rfl rfl))
    rw [set_at h5]
    have e2 : dC A s t (nI o) (nI q) = [.ref 6, .ref (A.1 (nv (s 10))), .ref (A.2.1 m), lt, .int (nI o), .int (nI q)] := by
      have hlt : lt = va_rf ((lastF s t).map fun z => A.2.2 z.1 z.2) := by
        unfold dC at edc
        simp only [List.cons.injEq] at edc
        exact edc.2.2.2.1.symm
      unfold dC
      rw [hm, hlt]
      rfl
    rw [e2]
    rfl
end TELL3
