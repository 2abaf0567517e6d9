section TELL2
variable {V : Prop} {A : Bk} {N n : Nat} {h : im_H} {s : Nat → Int32} {t : Nat → Nat → Int32} {m f : Nat} {g : Nat → Int32} {w fr' q' : Int32} {Q : Option Value → im_H → Prop}
theorem bit_n {x : Int32} {a : Nat} (e : x = nI a) (h : a ≤ 1) : bI (decide (x = 1)) = x := by
  subst e
  have : a = 0 ∨ a = 1 := by omega
  rcases this with rfl | rfl <;> rfl
/-- tellPicture -/
theorem c_9 (d : Nat) (hD : DI s t) (hR : DR V A N n h s t) (hl : lastF s t = some (m, f)) (hL : LN h g w fr' q') (hg0 : g 0 = t 9 0) (hg1 : g 1 = t 9 1) (hg2 : g 2 = t 9 2) (k : ∀ h', fD N 0 0 h h' → DR V A N n h' (mReadPic s t m f).2.1 (mReadPic s t m f).2.2 → Q (some (.int (mReadPic s t m f).1)) h') : gC (gD (d + 3)) 9 [.ref 5] h Q := by
  obtain ⟨m48, f30, hM, hfl, hf1, hN, hNm, hmp, ⟨sh, hx, hsh⟩, ⟨o1, o2, h5, edc, rv⟩, htx⟩ := hR.lat hD hl
  have hF := hM.2.2.2.2 f hfl
  have hne5 : A.2.2 m f ≠ 5 := by have := hR.1; omega
  have hL' := hL
  obtain ⟨⟨v1, v2, v4, h6⟩, h7⟩ := hL
  obtain ⟨a0, b0, e0⟩ := ps_ex (hD.2.2 0 (by decide))
  obtain ⟨a1, b1, e1⟩ := ps_ex (hD.2.2 1 (by decide))
  obtain ⟨a2, b2, e2⟩ := ps_ex (hD.2.2 2 (by decide))
  obtain ⟨l, hl80, el⟩ := ps_ex (hF.1 3 (by decide))
  have hl80 : l ≤ 80 := hl80
  have el' : gF t m f 3 = nI l := el
  unfold mReadPic at k
  have hcond : (t 9 0 ≤ 9 ∧ t 9 0 < t 8 (fI m f 3) ∧ t 9 1 ≤ 1 ∧ t 9 2 ≤ 1) ↔ (a0 ≤ 9 ∧ a0 < l ∧ a1 ≤ 1 ∧ a2 ≤ 1) := by
    rw [e0, e1, e2, el, show (9 : Int32) = nI 9 from rfl, show (1 : Int32) = nI 1 from rfl, nI_leI (by omega) (by decide), nI_ltI (by omega) (by omega), nI_leI (by omega) (by decide), nI_leI (by omega) (by decide)]
  have three : ¬ (a0 ≤ 9 ∧ a0 < l ∧ a1 ≤ 1 ∧ a2 ≤ 1) → gG tb_T (gD (d + 2)) (some .int) cd_9 52 [some (.ref 5)] [] h Q := by
    intro hn
    rw [if_neg (fun z => hn (hcond.mp z))] at k
    refine gG.step rfl (fun _ => rfl) ?_
    exact gG.done rfl (fun _ => rfl) (k h fD.rf hR)
  have w01 : ∀ {a : Nat}, a ≤ 9999 → ((0 : Int32) ≤ nI a ∧ nI a ≤ 1 ↔ a ≤ 1) := by
    intro a ha
    rw [show (1 : Int32) = nI 1 from rfl, nI_leI (by omega) (by decide)]
    exact ⟨fun z => z.2, fun z => ⟨nI_pos' (by omega), z⟩⟩
  refine gC.of (q := me_9.2) rfl (Nat.le_of_ble_eq_true rfl) rfl ?_
  refine gG.step (cd := cd_9) rfl (fun _ => rfl) ?_
  refine gG.get rfl (h5) rfl ?_
  iterate 4 refine gG.step rfl (fun _ => rfl) ?_
  refine gG.get rfl (h5) rfl ?_
  refine gG.get rfl (hx) rfl ?_
  rw [el']
  iterate 2 refine gG.step rfl (fun _ => rfl) ?_
  refine gG.inv rfl (fun _ => rfl) (Nat.le_of_ble_eq_true rfl) rfl rfl (Nat.le_of_ble_eq_true rfl) ?_
  refine gC.nat rfl (r := some (.int (if nI l - 1 < 9 then nI l - 1 else 9))) (h' := h) rfl ?_
  show gG _ _ _ _ 20 _ [Value.int (if nI l - 1 < 9 then nI l - 1 else 9), Value.int 0, Value.int (nI 0), Value.ref 6] h Q
  refine gG.vir rfl (h6) rfl rfl (Nat.le_of_ble_eq_true rfl) rfl rfl (Nat.le_of_ble_eq_true rfl) ?_
  refine c_322 d (j := 0) hL' (by decide) _ ?_
  rw [hg0, e0]
  have hmin : (0 ≤ nI a0 ∧ nI a0 ≤ (if nI l - 1 < 9 then nI l - 1 else 9)) ↔ (a0 ≤ 9 ∧ a0 < l) := by
    have el1 : (nI l - 1).toInt = (l : Int) - 1 := by
      rw [show (1 : Int32) = nI 1 from rfl, pk_sub_toInt (by omega) (by omega)]
      rfl
    have e9 : (9 : Int32).toInt = 9 := rfl
    have ez : (0 : Int32).toInt = 0 := rfl
    have ea : (nI a0).toInt = (a0 : Int) := nI_toInt (by omega)
    split
    · rename_i hlt
      rw [Int32.lt_iff_toInt_lt, el1, e9] at hlt
      rw [Int32.le_iff_toInt_le, Int32.le_iff_toInt_le, ea, el1, ez]
      omega
    · rename_i hlt
      rw [Int32.lt_iff_toInt_lt, el1, e9] at hlt
      rw [Int32.le_iff_toInt_le, Int32.le_iff_toInt_le, ea, e9, ez]
      omega
  show gG _ _ _ _ 23 _ [Value.int (bI (decide (0 ≤ nI a0 ∧ nI a0 ≤ (if nI l - 1 < 9 then nI l - 1 else 9))))] h Q
  by_cases hc0 : a0 ≤ 9 ∧ a0 < l
  case neg =>
    rw [decide_eq_false (fun z => hc0 (hmin.mp z))]
    refine gG.ifc (tgt := 52) rfl rfl (fun _ => ?_) (fun c => absurd (by decide) c)
    exact three (fun z => hc0 ⟨z.1, z.2.1⟩)
  case pos =>
  rw [decide_eq_true (hmin.mpr hc0)]
  refine gG.ifc (tgt := 52) rfl rfl (fun c => absurd c (by decide)) (fun _ => ?_)
  refine gG.step rfl (fun _ => rfl) ?_
  refine gG.get rfl (h5) rfl ?_
  iterate 3 refine gG.step rfl (fun _ => rfl) ?_
  refine gG.vir rfl (h6) rfl rfl (Nat.le_of_ble_eq_true rfl) rfl rfl (Nat.le_of_ble_eq_true rfl) ?_
  refine c_322 d (j := 1) hL' (by decide) _ ?_
  rw [hg1, e1]
  show gG _ _ _ _ 36 _ [Value.int (bI (decide (0 ≤ nI a1 ∧ nI a1 ≤ 1)))] h Q
  by_cases hc1 : a1 ≤ 1
  case neg =>
    rw [decide_eq_false (fun z => hc1 ((w01 b1).mp z))]
    refine gG.ifc (tgt := 52) rfl rfl (fun _ => ?_) (fun c => absurd (by decide) c)
    exact three (fun z => hc1 z.2.2.1)
  case pos =>
  rw [decide_eq_true ((w01 b1).mpr hc1)]
  refine gG.ifc (tgt := 52) rfl rfl (fun c => absurd c (by decide)) (fun _ => ?_)
  refine gG.step rfl (fun _ => rfl) ?_
  refine gG.get rfl (h5) rfl ?_
  iterate 3 refine gG.step rfl (fun _ => rfl) ?_
  refine gG.vir rfl (h6) rfl rfl (Nat.le_of_ble_eq_true rfl) rfl rfl (Nat.le_of_ble_eq_true rfl) ?_
  refine c_322 d (j := 2) hL' (by decide) _ ?_
  rw [hg2, e2]
  show gG _ _ _ _ 49 _ [Value.int (bI (decide (0 ≤ nI a2 ∧ nI a2 ≤ 1)))] h Q
  by_cases hc2 : a2 ≤ 1
  case neg =>
    rw [decide_eq_false (fun z => hc2 ((w01 b2).mp z))]
    refine gG.ifc (tgt := 54) rfl rfl (fun c => absurd c (by decide)) (fun _ => ?_)
    exact three (fun z => hc2 z.2.2.2)
  case pos =>
  rw [decide_eq_true ((w01 b2).mpr hc2)]
  refine gG.ifc (tgt := 54) rfl rfl (fun _ => ?_) (fun c => absurd (by decide) c)
  rw [if_pos (hcond.mpr ⟨hc0.1, hc0.2, hc1, hc2⟩)] at k
  refine gG.step rfl (fun _ => rfl) ?_
  refine gG.get rfl (h5) rfl ?_
  refine gG.vir rfl (hx) rfl rfl (Nat.le_of_ble_eq_true rfl) rfl rfl (Nat.le_of_ble_eq_true rfl) ?_
  refine c_193 (d + 1) hx ?_
  show gG _ _ _ _ 61 _ [Value.int (bI (decide (t 8 (fI m f 0) = 0)))] h Q
  by_cases h0 : t 8 (fI m f 0) = 0
  · rw [if_pos (Or.inl h0)] at k
    rw [decide_eq_true h0]
    refine gG.ifc (tgt := 74) rfl rfl (fun _ => ?_) (fun c => absurd (by decide) c)
    refine gG.step rfl (fun _ => rfl) ?_
    exact gG.done rfl (fun _ => rfl) (k h fD.rf hR)
  rw [decide_eq_false h0]
  refine gG.ifc (tgt := 74) rfl rfl (fun c => absurd c (by decide)) (fun _ => ?_)
  refine gG.step rfl (fun _ => rfl) ?_
  refine gG.get rfl (h5) rfl ?_
  refine gG.get rfl (hx) rfl ?_
  by_cases h19 : s 19 = 0
  case neg =>
    rw [if_pos (Or.inr h19)] at k
    refine gG.ifc (tgt := 76) rfl rfl (fun c => absurd (c_ee.mp c) h19) (fun _ => ?_)
    refine gG.step rfl (fun _ => rfl) ?_
    exact gG.done rfl (fun _ => rfl) (k h fD.rf hR)
  case pos =>
  rw [if_neg (fun z => z.elim h0 (fun y => y h19))] at k
  refine gG.ifc (tgt := 76) rfl rfl (fun _ => ?_) (fun c => absurd (c_ee.mpr h19) c)
  have other : ∀ {x : im_C} {k : Nat}, k < 8 → (h.set (A.2.2 m f) x)[k]? = h[k]? := fun {x k} hk => set_ne (by have := hR.1; omega)
  refine gG.step rfl (fun _ => rfl) ?_
  refine gG.get rfl (h5) rfl ?_
  refine gG.step rfl (fun _ => rfl) ?_
  refine gG.put (k := 9) rfl hx (Nat.le_of_ble_eq_true rfl) rfl rfl ?_
  have hx1 := set_at (x := .inr (3, (cF (gF t m f) (s 27) (s 19) sh (-1)).set 9 (.int 1))) hx
  refine gG.step rfl (fun _ => rfl) ?_
  refine gG.get rfl (by rw [other (by decide)]; exact h5) rfl ?_
  refine gG.step rfl (fun _ => rfl) ?_
  refine gG.get rfl (by rw [other (by decide)]; exact h5) rfl ?_
  refine gG.get rfl (by rw [other (by decide)]; exact h6) rfl ?_
  refine gG.step rfl (fun _ => rfl) ?_
  refine gG.iald (j := 0) rfl (by rw [other (by decide)]; exact h7) rfl (by decide) (by decide) ?_
  rw [hg0]
  refine gG.put (k := 10) rfl hx1 (Nat.le_of_ble_eq_true rfl) rfl rfl ?_
  have hx2 := set_at (x := .inr (3, ((cF (gF t m f) (s 27) (s 19) sh (-1)).set 9 (.int 1)).set 10 (.int (t 9 0)))) hx
  rw [List.set_set]
  refine gG.step rfl (fun _ => rfl) ?_
  refine gG.get rfl (by rw [other (by decide)]; exact h5) rfl ?_
  refine gG.step rfl (fun _ => rfl) ?_
  refine gG.get rfl (by rw [other (by decide)]; exact h5) rfl ?_
  refine gG.get rfl (by rw [other (by decide)]; exact h6) rfl ?_
  refine gG.step rfl (fun _ => rfl) ?_
  refine gG.iald (j := 1) rfl (by rw [other (by decide)]; exact h7) rfl (by decide) (by decide) ?_
  rw [hg1]
  refine gG.step rfl (fun _ => rfl) ?_
  have at122 : gG tb_T (gD (d + 2)) (some .int) cd_9 122 [some (.ref 5)] [.int (t 9 1), .ref (A.2.2 m f)] (h.set (A.2.2 m f) (.inr (3, ((cF (gF t m f) (s 27) (s 19) sh (-1)).set 9 (.int 1)).set 10 (.int (t 9 0))))) Q := by
    refine gG.put (k := 11) rfl hx2 (Nat.le_of_ble_eq_true rfl) rfl ?_ ?_
    · have : a1 = 0 ∨ a1 = 1 := by omega
      rw [e1]
      rcases this with rfl | rfl <;> rfl
    have hx3 := set_at (x := .inr (3, (((cF (gF t m f) (s 27) (s 19) sh (-1)).set 9 (.int 1)).set 10 (.int (t 9 0))).set 11 (.int (t 9 1)))) hx
    rw [List.set_set]
    refine gG.step rfl (fun _ => rfl) ?_
    refine gG.get rfl (by rw [other (by decide)]; exact h5) rfl ?_
    refine gG.step rfl (fun _ => rfl) ?_
    refine gG.get rfl (by rw [other (by decide)]; exact h5) rfl ?_
    refine gG.get rfl (by rw [other (by decide)]; exact h6) rfl ?_
    refine gG.step rfl (fun _ => rfl) ?_
    refine gG.iald (j := 2) rfl (by rw [other (by decide)]; exact h7) rfl (by decide) (by decide) ?_
    rw [hg2]
    refine gG.step rfl (fun _ => rfl) ?_
    have at147 : gG tb_T (gD (d + 2)) (some .int) cd_9 147 [some (.ref 5)] [.int (t 9 2), .ref (A.2.2 m f)] (h.set (A.2.2 m f) (.inr (3, (((cF (gF t m f) (s 27) (s 19) sh (-1)).set 9 (.int 1)).set 10 (.int (t 9 0))).set 11 (.int (t 9 1))))) Q := by
      refine gG.put (k := 12) rfl hx3 (Nat.le_of_ble_eq_true rfl) rfl ?_ ?_
      · have : a2 = 0 ∨ a2 = 1 := by omega
        rw [e2]
        rcases this with rfl | rfl <;> rfl
      rw [List.set_set]
      refine gG.step rfl (fun _ => rfl) ?_
      have e8 : ∀ w', mTl (mTl (mTl t m f 7 (t 9 0)) m f 10 (t 9 1)) m f 11 (t 9 2) 8 (fI m f w') = upd (upd (upd (gF t m f) 7 (t 9 0)) 10 (t 9 1)) 11 (t 9 2) w' := by
        intro w'
        rw [mTl_8]
        congr 1
        funext w2
        rw [mTl_8]
        congr 1
        funext w3
        exact mTl_8
      have eg : gF (mTl (mTl (mTl t m f 7 (t 9 0)) m f 10 (t 9 1)) m f 11 (t 9 2)) m f = upd (upd (upd (gF t m f) 7 (t 9 0)) 10 (t 9 1)) 11 (t 9 2) := funext e8
      refine gG.done rfl (fun _ => rfl) (k _ (fD.rf.set hx rfl (Or.inl hN)) (DR_set (s' := upd s 19 1) hD hR hl rfl (fun j hj => ?_) (fun m' f' w' a b c => ?_) ?_ ?_ ?_ hx hsh hne5 (by rw [edc]; exact h5) rv htx ?_))
      · dsimp only
        rw [mTl_ne hj, mTl_ne hj, mTl_ne hj]
      · dsimp only
        rw [mTl_8ne f30 (by decide) a b c, mTl_8ne f30 (by decide) a b c, mTl_8ne f30 (by decide) a b c]
      all_goals rw [eg]; rfl
    refine gG.icmp (tgt := 146) rfl rfl (fun c => ?_) (fun c => ?_)
    · have hz : t 9 2 = 0 := by
        have hne : ¬ t 9 2 = 1 := c_ne.mp c
        rw [e2] at hne ⊢
        have : a2 = 0 := by
          apply Decidable.byContradiction
          intro y
          exact hne (by rw [show a2 = 1 by omega]; rfl)
        rw [this]
        rfl
      rw [hz] at at147
      refine gG.step rfl (fun _ => rfl) ?_
      exact at147
    · have hz : t 9 2 = 1 := Decidable.not_not.mp (fun z => c (c_ne.mpr z))
      rw [hz] at at147
      refine gG.step rfl (fun _ => rfl) ?_
      refine gG.goto (tgt := 147) rfl rfl ?_
      exact at147
  refine gG.icmp (tgt := 121) rfl rfl (fun c => ?_) (fun c => ?_)
  · have hz : t 9 1 = 0 := by
      have hne : ¬ t 9 1 = 1 := c_ne.mp c
      rw [e1] at hne ⊢
      have : a1 = 0 := by
        apply Decidable.byContradiction
        intro y
        exact hne (by rw [show a1 = 1 by omega]; rfl)
      rw [this]
      rfl
    rw [hz] at at122
    refine gG.step rfl (fun _ => rfl) ?_
    exact at122
  · have hz : t 9 1 = 1 := Decidable.not_not.mp (fun z => c (c_ne.mpr z))
    rw [hz] at at122
    refine gG.step rfl (fun _ => rfl) ?_
    refine gG.goto (tgt := 122) rfl rfl ?_
    exact at122
end TELL2
