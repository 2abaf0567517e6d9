/-! WHAT A LINE TELLS OF THE LATEST FIELD -/
/-- below N only Draft and Line have changed; a cells and z slots more at most -/
def fD (N a z : Nat) (h h' : im_H) : Prop := (∀ k, k < N → (k < 5 ∨ 8 ≤ k) → h'[k]? = h[k]?) ∧ h.length ≤ h'.length ∧ h'.length ≤ h.length + a ∧ im_sz h' ≤ im_sz h + z
theorem fD.rf {N a z : Nat} {h : im_H} : fD N a z h h := ⟨fun _ _ _ => rfl, Nat.le_refl _, Nat.le_add_right _ _, Nat.le_add_right _ _⟩
theorem fD.set {N a z o : Nat} {h h' : im_H} {x y : im_C} (hf : fD N a z h h') (hx : h'[o]? = some x) (hs : im_sc y = im_sc x) (ho : N ≤ o ∨ (5 ≤ o ∧ o < 8)) : fD N a z h (h'.set o y) := by
  obtain ⟨h1, h2, h3, h4⟩ := hf
  refine ⟨fun k hk hk2 => ?_, by rw [List.length_set]; exact h2, by rw [List.length_set]; exact h3, by rw [im_sz_set hx hs]; exact h4⟩
  rw [set_ne (by omega)]
  exact h1 k hk hk2
/-- Line's cells -/
def LN (h : im_H) (g : Nat → Int32) (w f q : Int32) : Prop := (∃ v1 v2 v4, h[6]? = some (.inr (5, [.ref 7, v1, v2, .int w, v4, .int f, .int q]))) ∧ h[7]? = some (.inl (0, 5, .inl g))
theorem c_322 (d : Nat) {h : im_H} {g : Nat → Int32} {w f q lo hi : Int32} {j : Nat} (hL : LN h g w f q) (hj : j < 5) (Q : Option Value → im_H → Prop) (k : Q (some (.int (bI (decide (lo ≤ g j ∧ g j ≤ hi))))) h) : gC (gD (d + 2)) 322 [.ref 6, .int (nI j), .int lo, .int hi] h Q := by
  obtain ⟨⟨v1, v2, v4, h6⟩, h7⟩ := hL
  refine gC.of (q := me_322.2) rfl (Nat.le_of_ble_eq_true rfl) rfl ?_
  refine gG.step (cd := cd_322) rfl (fun _ => rfl) ?_
  refine gG.get rfl (h6) rfl ?_
  refine gG.step rfl (fun _ => rfl) ?_
  refine gG.iald (j := j) rfl h7 rfl hj (by decide) ?_
  iterate 2 refine gG.step rfl (fun _ => rfl) ?_
  refine gG.inv rfl (fun _ => rfl) (Nat.le_of_ble_eq_true rfl) rfl rfl (Nat.le_of_ble_eq_true rfl) ?_
  refine c_466 d _ _ _ _ _ ?_
  show gG _ _ _ _ 11 _ [Value.int (bI (decide (lo ≤ g j ∧ g j ≤ hi)))] h Q
  generalize decide (lo ≤ g j ∧ g j ≤ hi) = z at k ⊢
  cases z
  · exact gG.done rfl (fun _ => rfl) (k)
  · exact gG.done rfl (fun _ => rfl) (k)
theorem CSh_set {h : im_H} {o : Nat} {y : im_C} {sh : Value} {g g' tx : Nat → Int32} {fs : List Value} (hx : h[o]? = some (.inr (3, fs))) (e13 : g' 13 = g 13) (e12 : g' 12 = g 12) (hs : CSh h sh g tx) : CSh (h.set o y) sh g' tx := by
  unfold CSh at hs ⊢
  rw [e13, e12]
  rcases hs with h1 | ⟨h13, a, yy, e, ha, hy, hyt⟩
  · exact Or.inl h1
  · refine Or.inr ⟨h13, a, yy, e, ha, ?_, hyt⟩
    rw [set_ne]
    · exact hy
    · intro z
      rw [z, hx] at hy
      cases hy
section TELL
variable {V : Prop} {A : Bk} {N n : Nat} {h : im_H} {s : Nat → Int32} {t : Nat → Nat → Int32} {m f : Nat} {g : Nat → Int32} {w fr' q' : Int32} {Q : Option Value → im_H → Prop}
/-- the latest field's cell is written, its text stays -/
theorem DR_set {s' : Nat → Int32} {t' : Nat → Nat → Int32} {o1 o2 : Int32} {sh : Value} {l' : List Value} (hD : DI s t) (hR : DR V A N n h s t) (hl : lastF s t = some (m, f)) (hs : s' 10 = s 10) (ht : ∀ j, j ≠ 8 → t' j = t j) (h8 : ∀ m' f' w', f' < 30 → w' < 14 → ¬ (m' = m ∧ f' = f) → t' 8 (fI m' f' w') = t 8 (fI m' f' w')) (h9 : gF t' m f 9 = gF t m f 9) (e12 : gF t' m f 12 = gF t m f 12) (e13 : gF t' m f 13 = gF t m f 13)
    (hx : h[A.2.2 m f]? = some (.inr (3, cF (gF t m f) (s 27) (s 19) sh (-1)))) (hsh : CSh h sh (gF t m f) (dTx (nv (s 10)) (t 1))) (hne5 : A.2.2 m f ≠ 5) (h5 : h[5]? = some (.inr (0, dC A s t o1 o2))) (rv : V → o1 = s' 13 ∧ o2 = s' 14) (htx : nv (t 8 (fI m f 12)) + nv (t 8 (fI m f 13)) ≤ 3000 * nv (s 10) + n ∧ (0 < nv (t 8 (fI m f 13)) → 3000 * nv (s 10) ≤ nv (t 8 (fI m f 12)))) (hl' : l' = cF (gF t' m f) (s' 27) (s' 19) sh (-1)) : DR V A N n (h.set (A.2.2 m f) (.inr (3, l'))) s' t' := by
  subst hl'
  refine DR_fld (o1 := o1) (o2 := o2) (sh := sh) hD hR hl hs ht h8 h9 (fun k hk _ x hx' => ?_) (set_at hx) ?_ rv (CSh_set hx e13 e12 hsh) ?_
  · rw [set_ne hk]; exact hx'
  · rw [set_ne (Ne.symm hne5)]; exact h5
  · have a : t' 8 (fI m f 12) = t 8 (fI m f 12) := e12
    have b : t' 8 (fI m f 13) = t 8 (fI m f 13) := e13
    rw [a, b]; exact htx
/-- what is known of the latest field -/
theorem DR.lat (hD : DI s t) (hR : DR V A N n h s t) (hl : lastF s t = some (m, f)) : m < 48 ∧ f < 30 ∧ MapI t m ∧ f < nv (t 7 m) ∧ f + 1 = nv (t 7 m) ∧ N ≤ A.2.2 m f ∧ N ≤ A.2.1 m ∧ CMp A h t m 0 (fun _ => -1) (PD s t m) (dTx (nv (s 10)) (t 1)) ∧ (∃ sh, h[A.2.2 m f]? = some (.inr (3, cF (gF t m f) (s 27) (s 19) sh (-1))) ∧ CSh h sh (gF t m f) (dTx (nv (s 10)) (t 1))) ∧ (∃ o1 o2, h[5]? = some (.inr (0, [.ref 6, .ref (A.1 (nv (s 10))), .ref (A.2.1 m), .ref (A.2.2 m f), .int o1, .int o2])) ∧ dC A s t o1 o2 = [.ref 6, .ref (A.1 (nv (s 10))), .ref (A.2.1 m), .ref (A.2.2 m f), .int o1, .int o2] ∧ (V → o1 = s 13 ∧ o2 = s 14)) ∧ (nv (t 8 (fI m f 12)) + nv (t 8 (fI m f 13)) ≤ 3000 * nv (s 10) + n ∧ (0 < nv (t 8 (fI m f 13)) → 3000 * nv (s 10) ≤ nv (t 8 (fI m f 12)))) := by
  obtain ⟨hm, hf, k0, hk0, hk1⟩ := lastF_some hD hl
  obtain ⟨m48, hM, -, -, -⟩ := mLast_some hD hm
  obtain ⟨r1, ⟨o1, o2, r5, rv⟩, -, r0, ⟨c1, c2, c4⟩, ⟨d1, d2, d3, d4⟩⟩ := hR
  have hmp := c4 k0 (by omega)
  rw [← hk0] at hmp
  have h30 := hM.2.2.2.1.2
  obtain ⟨u0, uf⟩ := d2 k0 (by omega)
  rw [← hk0] at u0 uf
  obtain ⟨u1, u2, u3⟩ := uf f (by omega)
  obtain ⟨oc, pi, sh, hp, hx, hsh⟩ := hmp.fld (f := f) (by omega)
  obtain ⟨rfl, rfl⟩ := hp hl
  have edc : dC A s t o1 o2 = [.ref 6, .ref (A.1 (nv (s 10))), .ref (A.2.1 m), .ref (A.2.2 m f), .int o1, .int o2] := by
    unfold dC
    rw [hm, hl]
    rfl
  refine ⟨m48, by omega, hM, by omega, hf, u1, u0, hmp, ⟨sh, hx, hsh⟩, ⟨o1, o2, ?_, edc, rv⟩, u2, u3⟩
  rw [← edc]
  exact r5
/-- tellMarks -/
theorem c_10 (d : Nat) (hD : DI s t) (hR : DR V A N n h s t) (hl : lastF s t = some (m, f)) (hL : LN h g w fr' q') (hg : g 0 = t 9 0) (k : ∀ h', fD N 0 0 h h' → DR V A N n h' s (mReadMarks t m f).2 → Q (some (.int (mReadMarks t m f).1)) h') : gC (gD (d + 3)) 10 [.ref 5] h Q := by
  obtain ⟨m48, f30, hM, hfl, hf1, hN, hNm, hmp, ⟨sh, hx, hsh⟩, ⟨o1, o2, h5, edc, rv⟩, htx⟩ := hR.lat hD hl
  have hF := hM.2.2.2.2 f hfl
  have hne5 : A.2.2 m f ≠ 5 := by have := hR.1; omega
  obtain ⟨⟨v1, v2, v4, h6⟩, h7⟩ := hL
  unfold mReadMarks at k
  refine gC.of (q := me_10.2) rfl (Nat.le_of_ble_eq_true rfl) rfl ?_
  refine gG.step (cd := cd_10) rfl (fun _ => rfl) ?_
  refine gG.get rfl (h5) rfl ?_
  iterate 3 refine gG.step rfl (fun _ => rfl) ?_
  refine gG.vir rfl (h6) rfl rfl (Nat.le_of_ble_eq_true rfl) rfl rfl (Nat.le_of_ble_eq_true rfl) ?_
  refine c_322 d (j := 0) ⟨⟨v1, v2, v4, h6⟩, h7⟩ (by decide) _ ?_
  rw [hg]
  show gG _ _ _ _ 10 _ [Value.int (bI (decide (1 ≤ t 9 0 ∧ t 9 0 ≤ 3)))] h Q
  by_cases hc : 1 ≤ t 9 0 ∧ t 9 0 ≤ 3
  case neg =>
    rw [if_neg hc] at k
    rw [decide_eq_false hc]
    refine gG.ifc (tgt := 15) rfl rfl (fun c => absurd c (by decide)) (fun _ => ?_)
    refine gG.step rfl (fun _ => rfl) ?_
    exact gG.done rfl (fun _ => rfl) (k h fD.rf hR)
  case pos =>
  rw [if_pos hc] at k
  rw [decide_eq_true hc]
  refine gG.ifc (tgt := 15) rfl rfl (fun _ => ?_) (fun c => absurd (by decide) c)
  refine gG.step rfl (fun _ => rfl) ?_
  refine gG.get rfl (h5) rfl ?_
  refine gG.vir rfl (hx) rfl rfl (Nat.le_of_ble_eq_true rfl) rfl rfl (Nat.le_of_ble_eq_true rfl) ?_
  refine c_193 (d + 1) hx ?_
  show gG _ _ _ _ 22 _ [Value.int (bI (decide (t 8 (fI m f 0) = 0)))] h Q
  by_cases h0 : t 8 (fI m f 0) = 0
  · rw [if_pos (Or.inl h0)] at k
    rw [decide_eq_true h0]
    refine gG.ifc (tgt := 35) rfl rfl (fun _ => ?_) (fun c => absurd (by decide) c)
    refine gG.step rfl (fun _ => rfl) ?_
    exact gG.done rfl (fun _ => rfl) (k h fD.rf hR)
  rw [decide_eq_false h0]
  refine gG.ifc (tgt := 35) rfl rfl (fun c => absurd c (by decide)) (fun _ => ?_)
  refine gG.step rfl (fun _ => rfl) ?_
  refine gG.get rfl (h5) rfl ?_
  refine gG.get rfl (hx) rfl ?_
  obtain ⟨a, ha, ea⟩ := ps_ex (hF.1 8 (by decide))
  have ha : a ≤ 3 := ha
  have ea' : gF t m f 8 = nI a := ea
  by_cases ha0 : a = 0
  case neg =>
    have hnle : ¬ t 8 (fI m f 8) ≤ 0 := by rw [ea]; exact nI_nle (by omega) (by omega)
    rw [if_pos (Or.inr hnle)] at k
    rw [ea']
    refine gG.ifc (tgt := 37) rfl rfl (fun c => absurd (c_ee.mp c) (nI_ne0 (by omega) (by omega))) (fun _ => ?_)
    refine gG.step rfl (fun _ => rfl) ?_
    exact gG.done rfl (fun _ => rfl) (k h fD.rf hR)
  case pos =>
  have hle : t 8 (fI m f 8) ≤ 0 := by rw [ea, ha0]; decide
  rw [if_neg (fun z => z.elim h0 (fun y => y hle))] at k
  rw [ea', ha0]
  refine gG.ifc (tgt := 37) rfl rfl (fun _ => ?_) (fun c => absurd (by decide) c)
  refine gG.step rfl (fun _ => rfl) ?_
  refine gG.get rfl (h5) rfl ?_
  refine gG.step rfl (fun _ => rfl) ?_
  refine gG.get rfl (h5) rfl ?_
  refine gG.get rfl (h6) rfl ?_
  refine gG.step rfl (fun _ => rfl) ?_
  refine gG.iald (j := 0) rfl h7 rfl (by decide) (by decide) ?_
  rw [hg]
  refine gG.put (k := 13) rfl hx (Nat.le_of_ble_eq_true rfl) rfl rfl ?_
  refine gG.step rfl (fun _ => rfl) ?_
  have e8 : ∀ w', mTl t m f 8 (t 9 0) 8 (fI m f w') = upd (gF t m f) 8 (t 9 0) w' := fun w' => mTl_8
  have eg : gF (mTl t m f 8 (t 9 0)) m f = upd (gF t m f) 8 (t 9 0) := funext e8
  refine gG.done rfl (fun _ => rfl) (k _ (fD.rf.set hx rfl (Or.inl hN)) (DR_set hD hR hl rfl (fun j hj => mTl_ne hj) (fun m' f' w' a b c => mTl_8ne f30 (by decide) a b c) ?_ ?_ ?_ hx hsh hne5 (by rw [edc]; exact h5) rv htx ?_))
  all_goals rw [eg]; rfl
/-- tellGroup -/
theorem c_8 (d : Nat) (hD : DI s t) (hR : DR V A N n h s t) (hl : lastF s t = some (m, f)) (hL : LN h g w fr' q') (hg : g 0 = t 9 0) (k : ∀ h', fD N 0 0 h h' → DR V A N n h' s (mReadGroup t m f).2 → Q (some (.int (mReadGroup t m f).1)) h') : gC (gD (d + 3)) 8 [.ref 5] h Q := by
  obtain ⟨m48, f30, hM, hfl, hf1, hN, hNm, hmp, ⟨sh, hx, hsh⟩, ⟨o1, o2, h5, edc, rv⟩, htx⟩ := hR.lat hD hl
  have hF := hM.2.2.2.2 f hfl
  have hne5 : A.2.2 m f ≠ 5 := by have := hR.1; omega
  obtain ⟨⟨v1, v2, v4, h6⟩, h7⟩ := hL
  unfold mReadGroup at k
  refine gC.of (q := me_8.2) rfl (Nat.le_of_ble_eq_true rfl) rfl ?_
  refine gG.step (cd := cd_8) rfl (fun _ => rfl) ?_
  refine gG.get rfl (h5) rfl ?_
  iterate 3 refine gG.step rfl (fun _ => rfl) ?_
  refine gG.vir rfl (h6) rfl rfl (Nat.le_of_ble_eq_true rfl) rfl rfl (Nat.le_of_ble_eq_true rfl) ?_
  refine c_322 d (j := 0) ⟨⟨v1, v2, v4, h6⟩, h7⟩ (by decide) _ ?_
  rw [hg]
  show gG _ _ _ _ 11 _ [Value.int (bI (decide (1 ≤ t 9 0 ∧ t 9 0 ≤ 99)))] h Q
  by_cases hc : 1 ≤ t 9 0 ∧ t 9 0 ≤ 99
  case neg =>
    rw [if_neg hc] at k
    rw [decide_eq_false hc]
    refine gG.ifc (tgt := 16) rfl rfl (fun c => absurd c (by decide)) (fun _ => ?_)
    refine gG.step rfl (fun _ => rfl) ?_
    exact gG.done rfl (fun _ => rfl) (k h fD.rf hR)
  case pos =>
  rw [if_pos hc] at k
  rw [decide_eq_true hc]
  refine gG.ifc (tgt := 16) rfl rfl (fun _ => ?_) (fun c => absurd (by decide) c)
  refine gG.step rfl (fun _ => rfl) ?_
  refine gG.get rfl (h5) rfl ?_
  refine gG.step rfl (fun _ => rfl) ?_
  refine gG.get rfl (h5) rfl ?_
  refine gG.get rfl (h6) rfl ?_
  refine gG.step rfl (fun _ => rfl) ?_
  refine gG.iald (j := 0) rfl h7 rfl (by decide) (by decide) ?_
  rw [hg]
  refine gG.vir rfl (hmp.2.1) rfl rfl (Nat.le_of_ble_eq_true rfl) rfl rfl (Nat.le_of_ble_eq_true rfl) ?_
  refine c_387 (d + 1) hmp hM.2.2.2.1 (t 9 0) ?_
  have e0 : mBf t m (t 9 0) (nv (t 7 m)) = if t 8 (fI m f 6) = t 9 0 then some f else mBf t m (t 9 0) f := by rw [← hf1, mBf]
  rw [e0]
  have four : (mPart t m f (mBf t m (t 9 0) f) = true ∨ t 8 (fI m f 0) = 0 ∨ ¬ t 8 (fI m f 6) ≤ 0) → Q (some (.int 4)) h := by
    intro z
    have k := k h
    rw [if_pos z] at k
    exact k fD.rf hR
  obtain ⟨a6, ha6, ea6⟩ := ps_ex (hF.1 6 (by decide))
  have ha6 : a6 ≤ 99 := ha6
  have ea6' : gF t m f 6 = nI a6 := ea6
  -- behind the one ahead
  have at50 : ∀ x1 : Option Value, mPart t m f (mBf t m (t 9 0) f) = false → gG tb_T (gD (d + 2)) (some .int) cd_8 50 [some (.ref 5), x1] [] h Q := by
    intro x1 hp
    refine gG.step rfl (fun _ => rfl) ?_
    refine gG.get rfl (h5) rfl ?_
    refine gG.vir rfl (hx) rfl rfl (Nat.le_of_ble_eq_true rfl) rfl rfl (Nat.le_of_ble_eq_true rfl) ?_
    refine c_193 (d + 1) hx ?_
    show gG _ _ _ _ 57 _ [Value.int (bI (decide (t 8 (fI m f 0) = 0)))] h Q
    by_cases h0 : t 8 (fI m f 0) = 0
    · rw [decide_eq_true h0]
      refine gG.ifc (tgt := 70) rfl rfl (fun _ => ?_) (fun c => absurd (by decide) c)
      refine gG.step rfl (fun _ => rfl) ?_
      exact gG.done rfl (fun _ => rfl) (four (Or.inr (Or.inl h0)))
    rw [decide_eq_false h0]
    refine gG.ifc (tgt := 70) rfl rfl (fun c => absurd c (by decide)) (fun _ => ?_)
    refine gG.step rfl (fun _ => rfl) ?_
    refine gG.get rfl (h5) rfl ?_
    refine gG.get rfl (hx) rfl ?_
    rw [ea6']
    by_cases ha0 : a6 = 0
    case neg =>
      have hnle : ¬ t 8 (fI m f 6) ≤ 0 := by rw [ea6]; exact nI_nle (by omega) (by omega)
      refine gG.ifc (tgt := 72) rfl rfl (fun c => absurd (c_ee.mp c) (nI_ne0 (by omega) (by omega))) (fun _ => ?_)
      refine gG.step rfl (fun _ => rfl) ?_
      exact gG.done rfl (fun _ => rfl) (four (Or.inr (Or.inr hnle)))
    case pos =>
    have hle : t 8 (fI m f 6) ≤ 0 := by rw [ea6, ha0]; decide
    rw [if_neg (fun z => z.elim (fun y => by rw [hp] at y; cases y) (fun z => z.elim h0 (fun y => y hle)))] at k
    rw [ha0]
    refine gG.ifc (tgt := 72) rfl rfl (fun _ => ?_) (fun c => absurd (by decide) c)
    refine gG.step rfl (fun _ => rfl) ?_
    refine gG.get rfl (h5) rfl ?_
    refine gG.step rfl (fun _ => rfl) ?_
    refine gG.get rfl (h5) rfl ?_
    refine gG.get rfl (h6) rfl ?_
    refine gG.step rfl (fun _ => rfl) ?_
    refine gG.iald (j := 0) rfl h7 rfl (by decide) (by decide) ?_
    rw [hg]
    refine gG.put (k := 8) rfl hx (Nat.le_of_ble_eq_true rfl) rfl rfl ?_
    refine gG.step rfl (fun _ => rfl) ?_
    have e8 : ∀ w', mTl t m f 6 (t 9 0) 8 (fI m f w') = upd (gF t m f) 6 (t 9 0) w' := fun w' => mTl_8
    have eg : gF (mTl t m f 6 (t 9 0)) m f = upd (gF t m f) 6 (t 9 0) := funext e8
    refine gG.done rfl (fun _ => rfl) (k _ (fD.rf.set hx rfl (Or.inl hN)) (DR_set hD hR hl rfl (fun j hj => mTl_ne hj) (fun m' f' w' a b c => mTl_8ne f30 (by decide) a b c) ?_ ?_ ?_ hx hsh hne5 (by rw [edc]; exact h5) rv htx ?_))
    all_goals rw [eg]; rfl
  -- a field ahead of it
  have some1 : ∀ o : Nat, o < nv (t 7 m) → (mPart t m f (some o) = true → Q (some (.int 4)) h) → (mPart t m f (some o) = false → mPart t m f (mBf t m (t 9 0) f) = false) → gG tb_T (gD (d + 2)) (some .int) cd_8 32 [some (.ref 5), none] [.ref (A.2.2 m o)] h Q := by
    intro o ho q4 qn
    obtain ⟨oc2, pi2, sh2, -, hx2, -⟩ := hmp.fld ho
    refine gG.step (L' := [some (.ref 5), some (.ref (A.2.2 m o))]) rfl (fun _ => rfl) ?_
    refine gG.step rfl (fun _ => rfl) ?_
    refine gG.step rfl (fun _ => rfl) ?_
    iterate 2 refine gG.step rfl (fun _ => rfl) ?_
    refine gG.get rfl (h5) rfl ?_
    refine gG.vir rfl (hx2) rfl rfl (Nat.le_of_ble_eq_true rfl) rfl rfl (Nat.le_of_ble_eq_true rfl) ?_
    refine c_199 (d + 1) hx2 hx ?_
    have ep : mPart t m f (some o) = !decide (gF t m o 1 = gF t m f 1 ∧ gF t m o 2 + (gF t m o 3 + 1) * gF t m o 5 = gF t m f 2) := rfl
    show gG _ _ _ _ 45 _ [Value.int (bI (decide (gF t m o 1 = gF t m f 1 ∧ gF t m o 2 + (gF t m o 3 + 1) * gF t m o 5 = gF t m f 2)))] h Q
    cases hz : decide (gF t m o 1 = gF t m f 1 ∧ gF t m o 2 + (gF t m o 3 + 1) * gF t m o 5 = gF t m f 2) with
    | true =>
      rw [hz] at ep
      refine gG.ifc (tgt := 50) rfl rfl (fun _ => ?_) (fun c => absurd (by decide) c)
      exact at50 _ (qn ep)
    | false =>
      rw [hz] at ep
      refine gG.ifc (tgt := 50) rfl rfl (fun c => absurd c (by decide)) (fun _ => ?_)
      refine gG.step rfl (fun _ => rfl) ?_
      exact gG.done rfl (fun _ => rfl) (q4 ep)
  by_cases hgf : t 8 (fI m f 6) = t 9 0
  · rw [if_pos hgf]
    have hnle : ¬ t 8 (fI m f 6) ≤ 0 := by
      rw [hgf]
      intro z
      have := Int32.le_trans hc.1 z
      exact absurd this (by decide)
    refine some1 f hfl (fun _ => four (Or.inr (Or.inr hnle))) (fun hz => ?_)
    exfalso
    have hcd := of_decide_eq_true (show decide (t 8 (fI m f 1) = t 8 (fI m f 1) ∧ t 8 (fI m f 2) + (t 8 (fI m f 3) + 1) * t 8 (fI m f 5) = t 8 (fI m f 2)) = true by
      have hz : (!decide (t 8 (fI m f 1) = t 8 (fI m f 1) ∧ t 8 (fI m f 2) + (t 8 (fI m f 3) + 1) * t 8 (fI m f 5) = t 8 (fI m f 2))) = false := hz
      simpa using hz)
    have h2 := hcd.2
    obtain ⟨a2, b2, e2⟩ := ps_ex (hF.1 2 (by decide))
    obtain ⟨a3, b3, e3⟩ := ps_ex (hF.1 3 (by decide))
    obtain ⟨a5, b5, e5⟩ := ps_ex (hF.1 5 (by decide))
    have b2 : a2 ≤ 80 := b2
    have b3 : a3 ≤ 80 := b3
    have b5 : a5 ≤ 20 := b5
    have t1 := hF.2.2.1
    have t8 := hF.2.2.2.2.2.2.2
    rw [e5, nv_nI (by omega)] at t1
    rw [e2, e3, e5, nv_nI (by omega), nv_nI (by omega), nv_nI (by omega)] at t8
    rw [e2, e3, e5, nI_1, pk_mul, nI_add, nI_eq (by omega) (by omega)] at h2
    have : 0 < (a3 + 1) * a5 := Nat.mul_pos (by omega) (by omega)
    omega
  · rw [if_neg hgf]
    cases hb : mBf t m (t 9 0) f with
    | none =>
      rw [hb] at at50
      refine gG.step (L' := [some (.ref 5), some .null]) rfl (fun _ => rfl) ?_
      refine gG.step rfl (fun _ => rfl) ?_
      refine gG.jmp (tgt := 50) rfl (fun _ => rfl) rfl ?_
      exact at50 _ rfl
    | some o =>
      rw [hb] at at50 some1 four
      have ho := mBf_lt hb
      exact some1 o (by omega) (fun y => four (Or.inl y)) (fun y => y)
end TELL
