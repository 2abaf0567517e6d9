theorem sr_last {p : Nat → Bool} : ∀ (m i : Nat), p (i + m) = false → sr p (m + 1) i = sr p m i
  | 0, i, h => by
    rw [Nat.add_zero] at h
    show (if p i = true then some i else none) = none
    rw [if_neg (by rw [h]; decide)]
  | m + 1, i, h => by
    have ih := sr_last m (i + 1) (by rw [show i + 1 + m = i + (m + 1) by omega]; exact h)
    show (if p i = true then some i else sr p (m + 1) (i + 1)) = (if p i = true then some i else sr p m (i + 1))
    rw [ih]
theorem ov_eq {t : Nat → Nat → Int32} {m k : Nat} {but row col wd : Int32} (hne : ¬ nI k = but) : cOv (gF t m k) row col wd = mOvrP t m but row col (col + wd) k := by
  unfold cOv mOvrP
  show decide (t 8 (fI m k 1) = row ∧ t 8 (fI m k 2) < col + wd ∧ col < t 8 (fI m k 2) + (t 8 (fI m k 3) + 1) * t 8 (fI m k 5)) = _
  congr 1
  exact propext ⟨fun z => ⟨hne, z⟩, fun z => z.2⟩
theorem he_last {t : Nat → Nat → Int32} {m f : Nat} {row col wd : Int32} (hf : f + 1 = nv (t 7 m)) (h30 : nv (t 7 m) ≤ 30) : cOvO t m f row col wd = mOvrO t m (nI f) row col (col + wd) := by
  unfold cOvO mOvrO
  rw [← hf, sr_last f 0 (by unfold mOvrP; rw [Nat.zero_add]; exact decide_eq_false (fun z => z.1 rfl))]
  exact sr_congr (fun k _ hk => ov_eq (fun z => by have := (nI_eq (by omega) (by omega)).mp z; omega))
theorem he_new {t : Nat → Nat → Int32} {m : Nat} {row col wd : Int32} (h30 : nv (t 7 m) ≤ 30) : cOvO t m (nv (t 7 m)) row col wd = mOvrO t m (nI (nv (t 7 m))) row col (col + wd) := by
  unfold cOvO mOvrO
  exact sr_congr (fun k _ hk => ov_eq (fun z => by have := (nI_eq (by omega) (by omega)).mp z; omega))
section TELL4
variable {V : Prop} {A : Bk} {N n : Nat} {h : im_H} {s : Nat → Int32} {t : Nat → Nat → Int32} {m f : Nat} {g : Nat → Int32} {w fr' q' : Int32} {Q : Option Value → im_H → Prop}
/-- where overlap's numbers aren't held -/
theorem DR_V {s' : Nat → Int32} (hV : V → False) (hR : DR V A N n h s t) (h10 : s' 10 = s 10) (h27 : s' 27 = s 27) (h19 : s' 19 = s 19) : DR V A N n h s' t := by
  obtain ⟨o1, o2, h5, -⟩ := hR.2.1
  exact DR_5 hR (fun _ _ => rfl) h5 (fun v => (hV v).elim) h10 h27 h19
/-- tellTimes, as it is at 72aea7b: it looks for a free place first -/
theorem c_7 (d : Nat) (hV : V → False) (hD : DI s t) (hR : DR V A N n h s t) (hl : lastF s t = some (m, f)) (hL : LN h g w fr' q') (hg : g 0 = t 9 0) (k : ∀ h', fD N 0 0 h h' → DR V A N n h' (mReadTimes s t m f).2.1 (mReadTimes s t m f).2.2 → Q (some (.int (mReadTimes s t m f).1)) h') : gC (gD (d + 4)) 7 [.ref 5] h Q := by
  obtain ⟨m48, f30, hM, hfl, hf1, hN, hNm, hmp, ⟨sh, hx, hsh⟩, ⟨o1, o2, h5, edc, rv⟩, htx⟩ := hR.lat hD hl
  have hm := (lastF_some hD hl).1
  have hF := hM.2.2.2.2 f hfl
  have h30 := hM.2.2.2.1.2
  have hne5 : A.2.2 m f ≠ 5 := by have := hR.1; omega
  have hL' := hL
  obtain ⟨⟨v1, v2, v4, h6⟩, h7⟩ := hL
  unfold mReadTimes at k
  refine gC.of (q := me_7.2) rfl (Nat.le_of_ble_eq_true rfl) rfl ?_
  refine gG.step (cd := cd_7) rfl (fun _ => rfl) ?_
  refine gG.get rfl (h5) rfl ?_
  iterate 3 refine gG.step rfl (fun _ => rfl) ?_
  refine gG.vir rfl (h6) rfl rfl (Nat.le_of_ble_eq_true rfl) rfl rfl (Nat.le_of_ble_eq_true rfl) ?_
  refine c_322 (d + 1) (j := 0) hL' (by decide) _ ?_
  rw [hg]
  show gG _ _ _ _ 11 _ [Value.int (bI (decide (1 ≤ t 9 0 ∧ t 9 0 ≤ 20)))] h Q
  by_cases hc : 1 ≤ t 9 0 ∧ t 9 0 ≤ 20
  case neg =>
    rw [if_neg hc] at k
    rw [decide_eq_false hc]
    refine gG.ifc (tgt := 16) rfl rfl (fun c => absurd c (by decide)) (fun _ => ?_)
    refine gG.step rfl (fun _ => rfl) ?_
    exact gG.done rfl (fun _ => rfl) (k h fD.rf hR)
  case pos =>
  rw [if_pos hc] at k
  rw [decide_eq_true hc]
  refine gG.ifc (tgt := 16) rfl rfl (fun _ => ?_) (fun c => absurd (by decide) c)
  refine gG.step rfl (fun _ => rfl) ?_
  refine gG.get rfl (h5) rfl ?_
  refine gG.get rfl (h6) rfl ?_
  refine gG.step rfl (fun _ => rfl) ?_
  refine gG.iald (j := 0) rfl h7 rfl (by decide) (by decide) ?_
  rw [hg]
  refine gG.step (L' := [some (.ref 5), some (.int (t 9 0)), none]) rfl (fun _ => rfl) ?_
  refine gG.step rfl (fun _ => rfl) ?_
  refine gG.get rfl (h5) rfl ?_
  refine gG.get rfl (hx) rfl ?_
  iterate 4 refine gG.step rfl (fun _ => rfl) ?_
  refine gG.step (L' := [some (.ref 5), some (.int (t 9 0)), some (.int ((t 8 (fI m f 3) + 1) * t 9 0))]) rfl (fun _ => rfl) ?_
  iterate 2 refine gG.step rfl (fun _ => rfl) ?_
  refine gG.get rfl (h5) rfl ?_
  refine gG.get rfl (hmp.2.1) rfl ?_
  iterate 2 refine gG.step rfl (fun _ => rfl) ?_
  have e7 : t 7 m - 1 = nI f := by
    rw [hM.2.2.2.1.1, ← hf1]
    exact nI_pred f
  show gG _ _ _ _ 48 _ [Value.int (t 7 m - 1), Value.ref 5] h Q
  rw [e7]
  refine gG.step rfl (fun _ => rfl) ?_
  refine gG.get rfl (h5) rfl ?_
  refine gG.get rfl (hx) rfl ?_
  refine gG.step rfl (fun _ => rfl) ?_
  refine gG.get rfl (h5) rfl ?_
  refine gG.get rfl (hx) rfl ?_
  refine gG.step rfl (fun _ => rfl) ?_
  show gG _ _ _ _ 63 _ [Value.int ((t 8 (fI m f 3) + 1) * t 9 0), Value.int (t 8 (fI m f 2)), Value.int (t 8 (fI m f 1)), Value.int (nI f), Value.ref 5] h Q
  refine gG.vir rfl (h5) rfl rfl (Nat.le_of_ble_eq_true rfl) rfl rfl (Nat.le_of_ble_eq_true rfl) ?_
  refine c_6 d hD hR hm (q := f) (by omega) (he_last hf1 h30) (fun h1 hfd hk1 hR1 => ?_)
  have hs10 := mLies_10 (s := s) (t := t) (m := m) (but := nI f) (row := t 8 (fI m f 1)) (lo := t 8 (fI m f 2)) (hi := t 8 (fI m f 2) + (t 8 (fI m f 3) + 1) * t 9 0)
  have hs27 : (mLies s t m (nI f) (t 8 (fI m f 1)) (t 8 (fI m f 2)) (t 8 (fI m f 2) + (t 8 (fI m f 3) + 1) * t 9 0)).2 27 = s 27 ∧ (mLies s t m (nI f) (t 8 (fI m f 1)) (t 8 (fI m f 2)) (t 8 (fI m f 2) + (t 8 (fI m f 3) + 1) * t 9 0)).2 19 = s 19 := by
    unfold mLies
    split
    · split
      · exact ⟨rfl, rfl⟩
      · exact ⟨rfl, rfl⟩
    · exact ⟨rfl, rfl⟩
  have hRs : DR V A N n h1 s t := DR_V hV hR1 hs10.symm hs27.1.symm hs27.2.symm
  obtain ⟨o1', o2', h5', edc', rv'⟩ : ∃ o1 o2, h1[5]? = some (.inr (0, [.ref 6, .ref (A.1 (nv (s 10))), .ref (A.2.1 m), .ref (A.2.2 m f), .int o1, .int o2])) ∧ dC A s t o1 o2 = [.ref 6, .ref (A.1 (nv (s 10))), .ref (A.2.1 m), .ref (A.2.2 m f), .int o1, .int o2] ∧ (V → o1 = s 13 ∧ o2 = s 14) := (hRs.lat hD hl).2.2.2.2.2.2.2.2.2.1
  have hx1 : h1[A.2.2 m f]? = some (.inr (3, cF (gF t m f) (s 27) (s 19) sh (-1))) := by rw [hk1 _ hne5]; exact hx
  have hsh1 : CSh h1 sh (gF t m f) (dTx (nv (s 10)) (t 1)) := CSh_keep (fun k hk x hx' => by rw [hk1 k (by omega)]; exact hx') (fun _ _ => rfl) hsh
  generalize hz : mLies s t m (nI f) (t 8 (fI m f 1)) (t 8 (fI m f 2)) (t 8 (fI m f 2) + (t 8 (fI m f 3) + 1) * t 9 0) = z at k hR1
  show gG _ _ _ _ 66 _ [Value.int (bI (!z.1))] h1 Q
  have four : (z.1 = true ∨ t 8 (fI m f 0) = 0 ∨ ¬ s 27 = 0) → gG tb_T (gD (d + 3)) (some .int) cd_7 89 [some (.ref 5), some (.int (t 9 0)), some (.int ((t 8 (fI m f 3) + 1) * t 9 0))] [] h1 Q := by
    intro y
    have k := k h1
    refine gG.step rfl (fun _ => rfl) ?_
    by_cases ha : t 8 (fI m f 0) = 0 ∨ ¬ s 27 = 0
    · rw [if_pos ha] at k
      exact gG.done rfl (fun _ => rfl) (k hfd hRs)
    · rw [if_neg ha] at k
      have hz1 : z.1 = true := y.elim id (fun y => absurd y ha)
      dsimp only at k
      rw [if_pos hz1] at k
      exact gG.done rfl (fun _ => rfl) (k hfd hR1)
  cases hz1 : z.1 with
  | true =>
    refine gG.ifc (tgt := 89) rfl rfl (fun _ => ?_) (fun c => absurd (by decide) c)
    exact four (Or.inl hz1)
  | false =>
    refine gG.ifc (tgt := 89) rfl rfl (fun c => absurd c (by decide)) (fun _ => ?_)
    refine gG.step rfl (fun _ => rfl) ?_
    refine gG.get rfl (h5') rfl ?_
    refine gG.vir rfl (hx1) rfl rfl (Nat.le_of_ble_eq_true rfl) rfl rfl (Nat.le_of_ble_eq_true rfl) ?_
    refine c_193 (d + 2) hx1 ?_
    show gG _ _ _ _ 76 _ [Value.int (bI (decide (t 8 (fI m f 0) = 0)))] h1 Q
    by_cases h0 : t 8 (fI m f 0) = 0
    · rw [decide_eq_true h0]
      refine gG.ifc (tgt := 89) rfl rfl (fun _ => ?_) (fun c => absurd (by decide) c)
      exact four (Or.inr (Or.inl h0))
    rw [decide_eq_false h0]
    refine gG.ifc (tgt := 89) rfl rfl (fun c => absurd c (by decide)) (fun _ => ?_)
    refine gG.step rfl (fun _ => rfl) ?_
    refine gG.get rfl (h5') rfl ?_
    refine gG.get rfl (hx1) rfl ?_
    by_cases h27 : s 27 = 0
    case neg =>
      refine gG.ifc (tgt := 91) rfl rfl (fun c => absurd (c_ee.mp c) h27) (fun _ => ?_)
      exact four (Or.inr (Or.inr h27))
    case pos =>
    refine gG.ifc (tgt := 91) rfl rfl (fun _ => ?_) (fun c => absurd (c_ee.mpr h27) c)
    rw [if_neg (fun y => y.elim h0 (fun y => y h27))] at k
    dsimp only at k
    rw [if_neg (by rw [hz1]; decide)] at k
    have other : ∀ {x : im_C} {k : Nat}, k < 8 → (h1.set (A.2.2 m f) x)[k]? = h1[k]? := fun {x k} hk => set_ne (by have := hR.1; omega)
    refine gG.step rfl (fun _ => rfl) ?_
    refine gG.get rfl (h5') rfl ?_
    refine gG.step rfl (fun _ => rfl) ?_
    refine gG.put (k := 5) rfl hx1 (Nat.le_of_ble_eq_true rfl) rfl rfl ?_
    refine gG.step rfl (fun _ => rfl) ?_
    refine gG.get rfl (by rw [other (by decide)]; exact h5') rfl ?_
    refine gG.step rfl (fun _ => rfl) ?_
    refine gG.put (k := 6) rfl (set_at hx1) (Nat.le_of_ble_eq_true rfl) rfl rfl ?_
    rw [List.set_set]
    refine gG.step rfl (fun _ => rfl) ?_
    refine gG.get rfl (by rw [other (by decide)]; exact h5') rfl ?_
    refine gG.step rfl (fun _ => rfl) ?_
    refine gG.put (k := 7) rfl (set_at hx1) (Nat.le_of_ble_eq_true rfl) rfl rfl ?_
    rw [List.set_set]
    refine gG.step rfl (fun _ => rfl) ?_
    have eg : gF (mTl t m f 5 (t 9 0)) m f = upd (gF t m f) 5 (t 9 0) := funext (fun w' => mTl_8)
    refine gG.done rfl (fun _ => rfl) (k _ (hfd.set hx1 rfl (Or.inl hN)) (DR_set (s' := upd s 27 1) hD hRs hl rfl (fun j hj => mTl_ne hj) (fun m' f' w' a b c => mTl_8ne f30 (by decide) a b c) ?_ ?_ ?_ hx1 hsh1 hne5 (by rw [edc']; exact h5') rv' htx ?_))
    all_goals rw [eg]; rfl
end TELL4
