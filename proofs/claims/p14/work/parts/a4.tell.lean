/-- the latest field's cursor: its cell and its map's have changed -/
theorem DR_cur {V : Prop} {A : Bk} {N n : Nat} {h : im_H} {s s' : Nat → Int32} {t t' : Nat → Nat → Int32} {m f : Nat} {o1 o2 : Int32} (hD : DI s t) (hR : DR V A N n h s t) (hl : lastF s t = some (m, f)) (hs : s' 10 = s 10) (ht : ∀ j, j ≠ 8 → t' j = t j) (h8 : ∀ m' f' w', f' < 30 → w' < 14 → ¬ (m' = m ∧ f' = f) → t' 8 (fI m' f' w') = t 8 (fI m' f' w'))
    {sh : Value} {h' : im_H} (hh : ∀ k, k ≠ A.2.2 m f → k ≠ A.2.1 m → k ≠ 5 → ∀ x, h[k]? = some x → h'[k]? = some x) (hmc : h'[A.2.1 m]? = some (.inr (6, cM A t' m 0))) (hn : h'[A.2.2 m f]? = some (.inr (3, cF (gF t' m f) (s' 27) (s' 19) sh (-1)))) (h5 : h'[5]? = some (.inr (0, dC A s t o1 o2))) (hov : V → o1 = s' 13 ∧ o2 = s' 14) (hsh : CSh h' sh (gF t' m f) (dTx (nv (s 10)) (t 1))) (htx : nv (t' 8 (fI m f 12)) + nv (t' 8 (fI m f 13)) ≤ 3000 * nv (s 10) + n ∧ (0 < nv (t' 8 (fI m f 13)) → 3000 * nv (s 10) ≤ nv (t' 8 (fI m f 12)))) : DR V A N n h' s' t' := by
  obtain ⟨hm, hf, k0, hk0, hk1⟩ := lastF_some hD hl
  obtain ⟨r1, -, ⟨⟨b1, b2, w, c, fr', q, r6⟩, ⟨g7, r7⟩⟩, r0, ⟨c1, ⟨g, c2, c3⟩, c4⟩, ⟨d1, d2, d3, d4⟩⟩ := hR
  have hN : N ≤ A.2.2 m f := by
    rw [hk0]
    exact ((d2 k0 (by omega)).2 f (by rw [← hk0]; omega)).1
  have hNm : N ≤ A.2.1 m := by
    rw [hk0]
    exact (d2 k0 (by omega)).1
  have mcell : h[A.2.1 m]? = some (.inr (6, cM A t m 0)) := by
    have := (c4 k0 (by omega)).2.1
    rw [← hk0] at this
    exact this
  have nm : ∀ {k : Nat} {x : im_C}, h[k]? = some x → (∀ fs, x ≠ .inr (6, fs)) → k ≠ A.2.1 m := by
    intro k x hx hne z
    rw [z, mcell] at hx
    exact hne _ (Option.some.inj hx).symm
  have e3 : t' 3 = t 3 := ht 3 (by decide)
  have e7 : t' 7 = t 7 := ht 7 (by decide)
  have e1 : t' 1 = t 1 := ht 1 (by decide)
  have eL : mLast s' t' = mLast s t := by unfold mLast; rw [hs, e3]
  have eF : lastF s' t' = lastF s t := by unfold lastF; rw [eL, e7]
  have fcell : ∃ oc pi sh pl, h[A.2.2 m f]? = some (.inr (3, cF (gF t m f) oc pi sh pl)) := by
    obtain ⟨oc, pi, sh, -, hx, -⟩ := (c4 k0 (by omega)).fld (f := f) (by rw [← hk0]; omega)
    rw [← hk0] at hx
    exact ⟨_, _, _, _, hx⟩
  obtain ⟨oc0, pi0, sh0, pl0, hx0⟩ := fcell
  have ne : ∀ {k : Nat} {x : im_C}, h[k]? = some x → (∀ fs, x ≠ .inr (3, fs)) → k ≠ A.2.2 m f := by
    intro k x hx hne z
    rw [z, hx0] at hx
    exact hne _ (Option.some.inj hx).symm
  unfold DR
  rw [hs]
  refine ⟨r1, ⟨o1, o2, ?_, hov⟩, ⟨⟨b1, b2, w, c, fr', q, hh 6 (by omega) (by omega) (by decide) _ r6⟩, ⟨g7, hh 7 (by omega) (by omega) (by decide) _ r7⟩⟩, ?_, ⟨?_, ⟨g, ?_, ?_⟩, ?_⟩, ?_⟩
  · rw [h5]
    unfold dC
    rw [eL, eF, hs]
  · rw [e1]
    exact hh 1 (by omega) (by omega) (by decide) _ r0
  · rw [e3]
    exact hh _ (ne c1 (fun _ z => by cases z)) (nm c1 (fun _ z => by cases z)) (by omega) _ c1
  · exact hh _ (ne c2 (fun _ z => by cases z)) (nm c2 (fun _ z => by cases z)) (by omega) _ c2
  · rw [e3]; exact c3
  · rw [e3]
    intro k hk'
    obtain ⟨p1, p2, ⟨gg, p3, p4⟩, p5⟩ := c4 k hk'
    have hI := (hD.2.1 _ (Nat.le_refl _)).2 k hk'
    have h30 := hI.2.2.2.1.2
    refine ⟨p1, ?_, ⟨gg, hh _ (ne p3 (fun _ z => by cases z)) (nm p3 (fun _ z => by cases z)) (by omega) _ p3, by rw [e7]; exact p4⟩, ?_⟩
    · by_cases hkm : 8 * nv (s 10) + k = m
      · rw [hkm]; exact hmc
      · have eM : cM A t' (8 * nv (s 10) + k) 0 = cM A t (8 * nv (s 10) + k) 0 := by
          unfold cM
          rw [ht 4 (by decide), ht 5 (by decide), ht 6 (by decide), e7, hC_congr (t := t) (by rw [e7]) (fun f' hf' => h8 _ f' 9 (by omega) (by decide) (fun z => hkm z.1))]
        rw [eM]
        refine hh _ (ne p2 (fun _ z => by cases z)) (fun z => ?_) (by omega) _ p2
        rw [hk0] at z
        exact hkm (by rw [hk0, d3 k k0 hk' (by omega) z])
    · rw [e7]
      intro f' hf'
      by_cases hmf : 8 * nv (s 10) + k = m ∧ f' = f
      · rw [hmf.1, hmf.2]
        refine ⟨s' 27, s' 19, fun _ => ⟨rfl, rfl⟩, by omega, sh, hn, ?_⟩
        rw [e1]
        exact hsh
      · obtain ⟨oc, pi, hp, q1, sh1, q2, q3⟩ := p5 f' hf'
        have hne : A.2.2 (8 * nv (s 10) + k) f' ≠ A.2.2 m f := by
          intro z
          rw [hk0] at z
          obtain ⟨z1, z2⟩ := d4 k k0 f' f hk' (by omega) hf' (by rw [← hk0]; omega) z
          exact hmf ⟨by rw [hk0, z1], z2⟩
        have eg : ∀ w, w < 14 → gF t' (8 * nv (s 10) + k) f' w = gF t (8 * nv (s 10) + k) f' w := fun w hw => h8 _ f' w (by omega) hw hmf
        refine ⟨oc, pi, fun z => ?_, q1, sh1, ?_, ?_⟩
        · rw [eF, hl] at z
          have z := Option.some.inj z
          exact absurd ⟨(Prod.mk.inj z).1.symm, (Prod.mk.inj z).2.symm⟩ hmf
        · rw [hh _ hne (nm q2 (fun _ z => by cases z)) (by omega) _ q2]
          unfold cF
          rw [eg 0 (by decide), eg 1 (by decide), eg 2 (by decide), eg 3 (by decide), eg 4 (by decide), eg 5 (by decide), eg 6 (by decide), eg 7 (by decide), eg 8 (by decide), eg 9 (by decide), eg 10 (by decide), eg 11 (by decide)]
        · rw [e1]
          rcases q3 with y | ⟨y1, a, yy, y2, y3, y4, y5⟩
          · left
            rw [eg 13 (by decide)]
            exact y
          · right
            rw [eg 13 (by decide), eg 12 (by decide)]
            exact ⟨y1, a, yy, y2, y3, hh a (ne y4 (fun _ z => by cases z)) (nm y4 (fun _ z => by cases z)) (by omega) _ y4, y5⟩
  · unfold dA
    rw [e3, e7]
    refine ⟨d1, fun k hk' => ⟨(d2 k hk').1, fun f' hf' => ?_⟩, d3, d4⟩
    have hI := (hD.2.1 _ (Nat.le_refl _)).2 k hk'
    have h30 := hI.2.2.2.1.2
    obtain ⟨u1, u2, u3⟩ := (d2 k hk').2 f' hf'
    by_cases hmf : 8 * nv (s 10) + k = m ∧ f' = f
    · rw [hmf.1, hmf.2] at u1 ⊢
      exact ⟨u1, htx.1, htx.2⟩
    · rw [h8 _ f' 12 (by omega) (by decide) hmf, h8 _ f' 13 (by omega) (by decide) hmf]
      exact ⟨u1, u2, u3⟩
section TELL5
variable {V : Prop} {A : Bk} {N n : Nat} {h : im_H} {s : Nat → Int32} {t : Nat → Nat → Int32} {m f : Nat} {g : Nat → Int32} {w fr' q' : Int32} {Q : Option Value → im_H → Prop}
/-- tellCursor -/
theorem c_11 (d : Nat) (hD : DI s t) (hR : DR V A N n h s t) (hl : lastF s t = some (m, f)) (k : ∀ h', fD N 0 0 h h' → DR V A N n h' s (mReadCur t m f).2 → Q (some (.int (mReadCur t m f).1)) h') : gC (gD (d + 1)) 11 [.ref 5] h Q := by
  obtain ⟨m48, f30, hM, hfl, hf1, hN, hNm, hmp, ⟨sh, hx, hsh⟩, ⟨o1, o2, h5, edc, rv⟩, htx⟩ := hR.lat hD hl
  have hne5 : A.2.2 m f ≠ 5 := by have := hR.1; omega
  have hnm5 : A.2.1 m ≠ 5 := by have := hR.1; omega
  have hnmf : A.2.1 m ≠ A.2.2 m f := by
    intro z
    have := hmp.2.1
    rw [z, hx] at this
    cases this
  have hc : hC t m = (sr (mCurP t m) (f + 1) 0).isSome := by unfold hC; rw [hf1]
  unfold mReadCur at k
  refine gC.of (q := me_11.2) rfl (Nat.le_of_ble_eq_true rfl) rfl ?_
  refine gG.step (cd := cd_11) rfl (fun _ => rfl) ?_
  refine gG.get rfl (h5) rfl ?_
  refine gG.get rfl (hmp.2.1) rfl ?_
  rw [hc]
  cases hs : sr (mCurP t m) (f + 1) 0 with
  | some o =>
    rw [hs] at k
    refine gG.ifc (tgt := 12) rfl rfl (fun c => absurd c (show ¬ im_cmp .eq (bI true) 0 = true by decide)) (fun _ => ?_)
    refine gG.step rfl (fun _ => rfl) ?_
    exact gG.done rfl (fun _ => rfl) (k h fD.rf hR)
  | none =>
    rw [hs] at k
    refine gG.ifc (tgt := 12) rfl rfl (fun _ => ?_) (fun c => absurd (by decide) c)
    refine gG.step rfl (fun _ => rfl) ?_
    refine gG.get rfl (h5) rfl ?_
    refine gG.step rfl (fun _ => rfl) ?_
    refine gG.put (k := 5) rfl hmp.2.1 (Nat.le_of_ble_eq_true rfl) rfl rfl ?_
    show gG _ _ _ _ 20 _ [] (h.set (A.2.1 m) (.inr (6, (cM A t m 0).set 5 (.int 1)))) Q
    have h5' : (h.set (A.2.1 m) (.inr (6, (cM A t m 0).set 5 (.int 1))))[5]? = h[5]? := set_ne (Ne.symm hnm5)
    have hx' : (h.set (A.2.1 m) (.inr (6, (cM A t m 0).set 5 (.int 1))))[A.2.2 m f]? = some (.inr (3, cF (gF t m f) (s 27) (s 19) sh (-1))) := by rw [set_ne (Ne.symm hnmf)]; exact hx
    refine gG.step rfl (fun _ => rfl) ?_
    refine gG.get rfl (h5'.trans h5) rfl ?_
    refine gG.step rfl (fun _ => rfl) ?_
    refine gG.put (k := 14) rfl hx' (Nat.le_of_ble_eq_true rfl) rfl rfl ?_
    show gG _ _ _ _ 28 _ [] ((h.set (A.2.1 m) (.inr (6, (cM A t m 0).set 5 (.int 1)))).set (A.2.2 m f) (.inr (3, (cF (gF t m f) (s 27) (s 19) sh (-1)).set 14 (.int 1)))) Q
    refine gG.step rfl (fun _ => rfl) ?_
    have eg : gF (mTl t m f 9 1) m f = upd (gF t m f) 9 1 := funext (fun w' => mTl_8)
    have hC1 : hC (mTl t m f 9 1) m = true := by
      unfold hC
      rw [mTl_ne (by decide)]
      cases hz : sr (mCurP (mTl t m f 9 1) m) (nv (t 7 m)) 0 with
      | some o => rfl
      | none =>
        have := sr_none hz f (Nat.zero_le _) (by omega)
        unfold mCurP at this
        have e9 : mTl t m f 9 1 8 (fI m f 9) = 1 := by
          rw [mTl_8]; rfl
        rw [e9] at this
        exact absurd this (by decide)
    refine gG.done rfl (fun _ => rfl) (k _ ((fD.rf.set (y := .inr (6, (cM A t m 0).set 5 (.int 1))) hmp.2.1 rfl (Or.inl hNm)).set hx' rfl (Or.inl hN)) (DR_cur (t' := mTl t m f 9 1) (o1 := o1) (o2 := o2) (sh := sh) hD hR hl rfl (fun j hj => mTl_ne hj) (fun m' f' w' a b c => mTl_8ne f30 (by decide) a b c) (fun k h1 h2 _ x hx' => ?_) ?_ ?_ ?_ rv ?_ ?_))
    · rw [set_ne h1, set_ne h2]; exact hx'
    · rw [set_ne hnmf, set_at hmp.2.1]
      have : (cM A t m 0).set 5 (.int 1) = cM A (mTl t m f 9 1) m 0 := by
        unfold cM
        rw [hC1, mTl_ne (by decide), mTl_ne (by decide), mTl_ne (by decide), mTl_ne (by decide)]
        rfl
      rw [this]
    · rw [set_at hx', eg]
      rfl
    · rw [set_ne (Ne.symm hne5), h5', edc]
      exact h5
    · refine CSh_set (g := gF t m f) hx' (by rw [eg]; rfl) (by rw [eg]; rfl) ?_
      rcases hsh with y | ⟨y1, a, yy, y2, y3, y4, y5⟩
      · exact Or.inl y
      · refine Or.inr ⟨y1, a, yy, y2, y3, ?_, y5⟩
        rw [set_ne]
        · exact y4
        · intro z
          rw [z, hmp.2.1] at y4
          cases y4
    · have a : mTl t m f 9 1 8 (fI m f 12) = t 8 (fI m f 12) := by rw [mTl_8]; rfl
      have b : mTl t m f 9 1 8 (fI m f 13) = t 8 (fI m f 13) := by rw [mTl_8]; rfl
      rw [a, b]
      exact htx
end TELL5
