/-! THE LAYOUT IS SETTLED -/
section SET
variable {A : Bk} {h h' : im_H} {t : Nat → Nat → Int32} {m : Nat} {lb lb' : Int32} {pl pl' : Nat → Int32} {P : Nat → Int32 → Int32 → Prop} {tx : Nat → Int32} {Q : Option Value → im_H → Prop}
theorem CMp_sel (hm : CMp A h t m lb pl P tx) (ha : ∀ (k : Nat) (z : Nat × vp_A), h[k]? = some (.inl z) → h'[k]? = some (.inl z)) (hM : h'[A.2.1 m]? = some (.inr (6, cM A t m lb'))) (hF : ∀ f, f < nv (t 7 m) → ∀ oc pi sh, h[A.2.2 m f]? = some (.inr (3, cF (gF t m f) oc pi sh (pl f))) → h'[A.2.2 m f]? = some (.inr (3, cF (gF t m f) oc pi sh (pl' f)))) : CMp A h' t m lb' pl' P tx := by
  obtain ⟨p1, p2, ⟨g, p3, p4⟩, p5⟩ := hm
  refine ⟨p1, hM, ⟨g, ha _ _ p3, p4⟩, fun f hf => ?_⟩
  obtain ⟨oc, pi, hp, q1, sh, q2, q3⟩ := p5 f hf
  refine ⟨oc, pi, hp, q1, sh, hF f hf oc pi sh q2, ?_⟩
  rcases q3 with y | ⟨y1, a, yy, y2, y3, y4, y5⟩
  · exact Or.inl y
  · exact Or.inr ⟨y1, a, yy, y2, y3, ha a _ y4, y5⟩
/-- only the cells of map m have changed -/
def fM (A : Bk) (t : Nat → Nat → Int32) (m : Nat) (h h' : im_H) : Prop := h'.length = h.length ∧ im_sz h' = im_sz h ∧ (∀ k, k ≠ A.2.1 m → (∀ f, f < nv (t 7 m) → k ≠ A.2.2 m f) → h'[k]? = h[k]?)
theorem fM.rf : fM A t m h h := ⟨rfl, rfl, fun _ _ _ => rfl⟩
theorem fM.set {h0 : im_H} {o : Nat} {x y : im_C} (hf : fM A t m h0 h) (hx : h[o]? = some x) (hs : im_sc y = im_sc x) (ho : o = A.2.1 m ∨ ∃ f, f < nv (t 7 m) ∧ o = A.2.2 m f) : fM A t m h0 (h.set o y) := by
  refine ⟨by rw [List.length_set]; exact hf.1, by rw [im_sz_set hx hs]; exact hf.2.1, fun k h1 h2 => ?_⟩
  rw [set_ne]
  · exact hf.2.2 k h1 h2
  · intro z
    subst z
    rcases ho with ho | ⟨f, hf, ho⟩
    · exact h1 ho
    · exact h2 f hf ho
def plI (t : Nat → Nat → Int32) (m i : Nat) : Nat → Int32 := fun f => if f < i then plS t m f else -1
/-- ScreenMap.settle -/
theorem c_391 (d : Nat) (hI : MapI t m) (hinj : ∀ f f', f < nv (t 7 m) → f' < nv (t 7 m) → A.2.2 m f = A.2.2 m f' → f = f') (hm : CMp A h t m 0 (fun _ => -1) P tx) (k : ∀ h', fM A t m h h' → CMp A h' t m (lbS t m) (plS t m) P tx → Q none h') : gC (gD (d + 3)) 391 [.ref (A.2.1 m)] h Q := by
  obtain ⟨n, hn, e7⟩ := ps_ex hI.2.2.2.1
  have e7n : nv (t 7 m) = n := by rw [e7, nv_nI (by omega)]
  refine gC.of (q := me_391.2) rfl (Nat.le_of_ble_eq_true rfl) rfl ?_
  refine gG.step (cd := cd_391) rfl (fun _ => rfl) ?_
  refine gG.step (L' := [some (.ref (A.2.1 m)), some (.int (mBT t m 0)), none]) rfl (fun _ => rfl) ?_
  refine gG.step rfl (fun _ => rfl) ?_
  refine gG.step (L' := [some (.ref (A.2.1 m)), some (.int (mBT t m 0)), some (.int (nI 0))]) rfl (fun _ => rfl) ?_
  have key : ∀ (r i : Nat) (H : im_H), i + r = n → fM A t m h H → CMp A H t m 0 (plI t m i) P tx → gG tb_T (gD (d + 2)) none cd_391 5 [some (.ref (A.2.1 m)), some (.int (mBT t m i)), some (.int (nI i))] [] H Q := by
    intro r
    induction r with
    | zero =>
      intro i H hi hf hM
      have hin : i = n := by omega
      subst hin
      have ho := hM.2.1
      iterate 2 refine gG.step rfl (fun _ => rfl) ?_
      refine gG.get rfl (ho) rfl ?_
      rw [e7]
      refine gG.icmp (tgt := 53) rfl rfl (fun _ => ?_) (fun c => absurd ((c_ge (by omega) (by omega)).mpr (by omega)) c)
      iterate 2 refine gG.step rfl (fun _ => rfl) ?_
      refine gG.put (k := 6) rfl ho (Nat.le_of_ble_eq_true rfl) rfl rfl ?_
      refine gG.done rfl (fun _ => rfl) (k _ (hf.set ho rfl (Or.inl rfl)) (CMp_sel hM (fun k z hz => ?_) ?_ (fun f hf' oc pi sh hx => ?_)))
      · rw [set_ne]
        · exact hz
        · intro y
          rw [y, ho] at hz
          cases hz
      · rw [set_at ho]
        unfold lbS
        rw [e7n]
        rfl
      · rw [set_ne]
        · rw [hx]
          unfold plI
          rw [if_pos (by omega)]
        · intro y
          rw [y, ho] at hx
          cases hx
    | succ r ih =>
      intro i H hi hf hM
      have ho := hM.2.1
      obtain ⟨ga, hga, hgf⟩ := hM.2.2.1
      have hil : i < nv (t 7 m) := by omega
      obtain ⟨oc, pi, sh, -, hx, -⟩ := hM.fld hil
      have hF := hI.2.2.2.2 i hil
      obtain ⟨a, ha, ea⟩ := ps_ex (hF.1 0 (by decide))
      have ha : a ≤ 99 := ha
      have ea' : t 8 (fI m i 0) = nI a := ea
      iterate 2 refine gG.step rfl (fun _ => rfl) ?_
      refine gG.get rfl (ho) rfl ?_
      rw [e7]
      refine gG.icmp (tgt := 53) rfl rfl (fun c => absurd c (fun z => absurd ((c_ge (by omega) (by omega)).mp z) (by omega))) (fun _ => ?_)
      refine gG.step rfl (fun _ => rfl) ?_
      refine gG.get rfl (ho) rfl ?_
      refine gG.step rfl (fun _ => rfl) ?_
      refine gG.aal (j := i) rfl hga (hgf i hil) rfl (show i < 30 by omega) (by decide) ?_
      refine gG.vir rfl (hx) rfl rfl (Nat.le_of_ble_eq_true rfl) rfl rfl (Nat.le_of_ble_eq_true rfl) ?_
      refine c_193 (d + 1) hx ?_
      show gG _ _ _ _ 22 _ [Value.int (bI (decide (t 8 (fI m i 0) = 0)))] H Q
      by_cases h0 : t 8 (fI m i 0) = 0
      · rw [decide_eq_true h0]
        refine gG.ifc (tgt := 47) rfl rfl (fun _ => ?_) (fun c => absurd (by decide) c)
        refine gG.step (L' := [some (.ref (A.2.1 m)), some (.int (mBT t m i)), some (.int (nI i + 1))]) rfl (fun _ => rfl) ?_
        refine gG.goto (tgt := 5) rfl rfl ?_
        rw [nI_1]
        have eB : mBT t m (i + 1) = mBT t m i := by
          rw [mBT, if_neg]
          rw [h0]
          decide
        have ih1 := ih (i + 1) H (by omega) hf (CMp_sel hM (fun _ _ hz => hz) ho (fun f hf' oc pi sh hx => ?_))
        · rw [eB] at ih1
          exact ih1
        · rw [hx]
          have : plI t m i f = plI t m (i + 1) f := by
            unfold plI
            by_cases hfi : f < i
            · rw [if_pos hfi, if_pos (by omega)]
            · rw [if_neg hfi]
              by_cases hfe : f = i
              · rw [if_pos (by omega), hfe]
                unfold plS
                rw [if_pos h0]
              · rw [if_neg (by omega)]
          rw [this]
      · rw [decide_eq_false h0]
        have ha0 : a ≠ 0 := by
          intro y
          rw [y] at ea'
          exact h0 ea'
        have hpos : 0 < t 8 (fI m i 0) := by
          rw [ea']
          exact Int32.not_le.mp (nI_nle (by omega) (by omega))
        refine gG.ifc (tgt := 47) rfl rfl (fun c => absurd c (by decide)) (fun _ => ?_)
        refine gG.step rfl (fun _ => rfl) ?_
        refine gG.get rfl (ho) rfl ?_
        refine gG.step rfl (fun _ => rfl) ?_
        refine gG.aal (j := i) rfl hga (hgf i hil) rfl (show i < 30 by omega) (by decide) ?_
        refine gG.step rfl (fun _ => rfl) ?_
        refine gG.put (k := 16) rfl hx (Nat.le_of_ble_eq_true rfl) rfl rfl ?_
        have hf' : fM A t m h (H.set (A.2.2 m i) (.inr (3, cF (gF t m i) oc pi sh (mBT t m i)))) := hf.set hx rfl (Or.inr ⟨i, hil, rfl⟩)
        have hne : A.2.1 m ≠ A.2.2 m i := by
          intro y
          rw [y, hx] at ho
          cases ho
        have hM' : CMp A (H.set (A.2.2 m i) (.inr (3, cF (gF t m i) oc pi sh (mBT t m i)))) t m 0 (plI t m (i + 1)) P tx := by
          refine CMp_sel hM (fun k z hz => ?_) ?_ (fun f hf' oc' pi' sh' hx' => ?_)
          · rw [set_ne]
            · exact hz
            · intro y
              rw [y, hx] at hz
              cases hz
          · rw [set_ne hne]; exact ho
          · by_cases hfi : f = i
            · subst hfi
              rw [set_at hx]
              rw [hx] at hx'
              have e := (Prod.mk.inj (Sum.inr.inj (Option.some.inj hx'))).2
              unfold cF at e
              simp only [List.cons.injEq, Value.int.injEq] at e
              have e1 : oc = oc' := e.2.2.2.2.2.1
              have e2 : pi = pi' := e.2.2.2.2.2.2.2.2.2.1
              have e3 : sh = sh' := e.2.2.2.2.2.2.2.2.2.2.2.2.2.2.2.1
              subst e1 e2 e3
              have : plI t m (f + 1) f = mBT t m f := by
                unfold plI plS
                rw [if_pos (Nat.lt_succ_self _), if_neg h0]
              rw [this]
            · rw [set_ne (fun y => hfi (hinj f i hf' hil y)), hx']
              have : plI t m i f = plI t m (i + 1) f := by
                unfold plI
                by_cases hlt : f < i
                · rw [if_pos hlt, if_pos (by omega)]
                · rw [if_neg hlt, if_neg (by omega)]
              rw [this]
        have hx2 : (H.set (A.2.2 m i) (.inr (3, cF (gF t m i) oc pi sh (mBT t m i))))[A.2.2 m i]? = some (.inr (3, cF (gF t m i) oc pi sh (mBT t m i))) := set_at hx
        show gG _ _ _ _ 35 _ [] (H.set (A.2.2 m i) (.inr (3, cF (gF t m i) oc pi sh (mBT t m i)))) Q
        generalize H.set (A.2.2 m i) (.inr (3, cF (gF t m i) oc pi sh (mBT t m i))) = H2 at hf' hM' hx2
        have ho2 := hM'.2.1
        obtain ⟨ga2, hga2, hgf2⟩ := hM'.2.2.1
        iterate 2 refine gG.step rfl (fun _ => rfl) ?_
        refine gG.get rfl (ho2) rfl ?_
        refine gG.step rfl (fun _ => rfl) ?_
        refine gG.aal (j := i) rfl hga2 (hgf2 i hil) rfl (show i < 30 by omega) (by decide) ?_
        refine gG.vir rfl (hx2) rfl rfl (Nat.le_of_ble_eq_true rfl) rfl rfl (Nat.le_of_ble_eq_true rfl) ?_
        refine c_197 d hx2 ?_
        have eB : mBT t m (i + 1) = mBT t m i + (3 + gF t m i 3) * gF t m i 5 := by
          rw [mBT, if_pos hpos]
          unfold mBO
          rw [Int32.mul_comm]
          rfl
        refine gG.step rfl (fun _ => rfl) ?_
        show gG _ _ _ _ 46 _ [Value.int (mBT t m i + (3 + gF t m i 3) * gF t m i 5)] H2 Q
        rw [← eB]
        refine gG.step (L' := [some (.ref (A.2.1 m)), some (.int (mBT t m (i + 1))), some (.int (nI i))]) rfl (fun _ => rfl) ?_
        refine gG.step (L' := [some (.ref (A.2.1 m)), some (.int (mBT t m (i + 1))), some (.int (nI i + 1))]) rfl (fun _ => rfl) ?_
        refine gG.goto (tgt := 5) rfl rfl ?_
        rw [nI_1]
        exact ih (i + 1) H2 (by omega) hf' hM'
  refine key n 0 h (by omega) fM.rf (CMp_sel hm (fun _ _ z => z) hm.2.1 (fun f _ oc pi sh hx => ?_))
  rw [hx]
  unfold plI
  rw [if_neg (Nat.not_lt_zero _)]
end SET
