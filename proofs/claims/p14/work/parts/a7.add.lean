/-- a field more in the book -/
def bF (A : Bk) (m c o : Nat) : Bk := (A.1, A.2.1, fun m' f' => if m' = m ∧ f' = c then o else A.2.2 m' f')
theorem DR_add {V : Prop} {A : Bk} {N n m c : Nat} {h h' : im_H} {s s' : Nat → Int32} {t t' : Nat → Nat → Int32} {o1 o2 : Int32} (hD : DI s t) (hR : DR V A N n h s t) (hm : mLast s t = some m) (hc : nv (t 7 m) = c) (hc30 : c < 30) (hs : s' 10 = s 10) (ht : ∀ j, j ≠ 7 → j ≠ 8 → t' j = t j) (h7 : t' 7 = upd (t 7) m (nI (c + 1))) (h8 : ∀ m' f' w', f' < 30 → w' < 14 → ¬ (m' = m ∧ f' = c) → t' 8 (fI m' f' w') = t 8 (fI m' f' w')) (h12 : gF t' m c 12 = 0) (h13 : gF t' m c 13 = 0)
    (hh : ∀ k, k ≠ 5 → k ≠ A.2.1 m → k ≠ A.2.1 m + 1 → ∀ x, h[k]? = some x → h'[k]? = some x) (h5 : h'[5]? = some (.inr (0, [.ref 6, .ref (A.1 (nv (s 10))), .ref (A.2.1 m), .ref h.length, .int o1, .int o2]))) (rv : V → o1 = s' 13 ∧ o2 = s' 14) (hmc : h'[A.2.1 m]? = some (.inr (6, cM A t' m 0))) (harr : ∃ ga, h'[A.2.1 m + 1]? = some (.inl (6, 30, .inr (.inr (.inr (.inr ga))))) ∧ (∀ f, f < c → ga f = some (A.2.2 m f)) ∧ ga c = some h.length) (hnew : h'[h.length]? = some (.inr (3, cF (gF t' m c) (s' 27) (s' 19) .null (-1)))) : DR V (bF A m c h.length) N n h' s' t' := by
  obtain ⟨m48, hM, mg1, mg2, mg3⟩ := mLast_some hD hm
  obtain ⟨k0, hk0⟩ : ∃ k0, m = 8 * nv (s 10) + k0 := ⟨m - 8 * nv (s 10), by omega⟩
  have hk1 : k0 < nv (t 3 (nv (s 10))) := by omega
  obtain ⟨r1, -, ⟨⟨b1, b2, w, cc, fr', q, r6⟩, ⟨g7, r7⟩⟩, r0, ⟨c1, ⟨g, c2, c3⟩, c4⟩, ⟨d1, d2, d3, d4⟩⟩ := hR
  have hmp := c4 k0 hk1
  rw [← hk0] at hmp
  have hNm : N ≤ A.2.1 m := by rw [hk0]; exact (d2 k0 hk1).1
  have mcell := hmp.2.1
  obtain ⟨ga0, acell, -⟩ := hmp.2.2.1
  have hlm : A.2.1 m < h.length := (List.getElem?_eq_some_iff.mp mcell).1
  have nm : ∀ {k : Nat} {x : im_C}, h[k]? = some x → (∀ fs, x ≠ .inr (6, fs)) → k ≠ A.2.1 m := by
    intro k x hx hne z
    rw [z, mcell] at hx
    exact hne _ (Option.some.inj hx).symm
  have na : ∀ {k : Nat} {x : im_C}, h[k]? = some x → (∀ n' y, x ≠ .inl (6, n', y)) → k ≠ A.2.1 m + 1 := by
    intro k x hx hne z
    rw [z, acell] at hx
    exact hne _ _ (Option.some.inj hx).symm
  have e3 : t' 3 = t 3 := ht 3 (by decide) (by decide)
  have e1 : t' 1 = t 1 := ht 1 (by decide) (by decide)
  have eL : mLast s' t' = some m := by rw [← hm]; unfold mLast; rw [hs, e3]
  have e7m : t' 7 m = nI (c + 1) := by rw [h7, pk_us]
  have n7m : nv (t' 7 m) = c + 1 := by rw [e7m, nv_nI (by omega)]
  have e7o : ∀ M, M ≠ m → t' 7 M = t 7 M := fun M hM => by rw [h7, pk_un hM]
  have eF : lastF s' t' = some (m, c) := by
    unfold lastF
    rw [eL]
    dsimp only
    rw [if_neg (by rw [e7m]; exact nI_ne0 (by omega) (by omega)), n7m, Nat.add_sub_cancel]
  have bo : ∀ m' f', ¬ (m' = m ∧ f' = c) → (bF A m c h.length).2.2 m' f' = A.2.2 m' f' := fun m' f' hne => if_neg hne
  have bn : (bF A m c h.length).2.2 m c = h.length := if_pos ⟨rfl, rfl⟩
  unfold DR
  rw [hs]
  refine ⟨r1, ⟨o1, o2, ?_, rv⟩, ⟨⟨b1, b2, w, cc, fr', q, hh 6 (by decide) (by omega) (by omega) _ r6⟩, ⟨g7, hh 7 (by decide) (by omega) (by omega) _ r7⟩⟩, ?_, ⟨?_, ⟨g, ?_, ?_⟩, ?_⟩, ?_⟩
  · rw [h5]
    unfold dC
    rw [eL, eF, hs]
    show _ = some (Sum.inr (0, [Value.ref 6, Value.ref (A.1 (nv (s 10))), Value.ref (A.2.1 m), Value.ref ((bF A m c h.length).2.2 m c), Value.int o1, Value.int o2]))
    rw [bn]
  · rw [e1]
    exact hh 1 (by decide) (by omega) (by omega) _ r0
  · rw [e3]
    exact hh _ (by omega) (nm c1 (fun _ z => by cases z)) (na c1 (fun _ _ z => by cases z)) _ c1
  · exact hh _ (by omega) (nm c2 (fun _ z => by cases z)) (na c2 (fun _ _ z => by cases z)) _ c2
  · rw [e3]; exact c3
  · rw [e3]
    intro k hk'
    obtain ⟨p1, p2, ⟨gg, p3, p4⟩, p5⟩ := c4 k hk'
    have hI := (hD.2.1 _ (Nat.le_refl _)).2 k hk'
    have h30 := hI.2.2.2.1.2
    have oldf : ∀ f', f' < nv (t 7 (8 * nv (s 10) + k)) → ¬ (8 * nv (s 10) + k = m ∧ f' = c) → ∃ oc pi, PD s' t' (8 * nv (s 10) + k) f' oc pi ∧ CFd h' ((bF A m c h.length).2.2 (8 * nv (s 10) + k) f') (gF t' (8 * nv (s 10) + k) f') oc pi (-1) (dTx (nv (s 10)) (t' 1)) := by
      intro f' hf' hmf
      obtain ⟨oc, pi, hp, q1, sh1, q2, q3⟩ := p5 f' hf'
      have eg : ∀ w, w < 14 → gF t' (8 * nv (s 10) + k) f' w = gF t (8 * nv (s 10) + k) f' w := fun w hw => h8 _ f' w (by omega) hw hmf
      rw [bo _ _ hmf]
      refine ⟨oc, pi, fun z => ?_, q1, sh1, ?_, ?_⟩
      · rw [eF] at z
        have z := Option.some.inj z
        exact absurd ⟨(Prod.mk.inj z).1.symm, (Prod.mk.inj z).2.symm⟩ hmf
      · rw [hh _ (by omega) (nm q2 (fun _ z => by cases z)) (na q2 (fun _ _ z => by cases z)) _ q2]
        unfold cF
        rw [eg 0 (by decide), eg 1 (by decide), eg 2 (by decide), eg 3 (by decide), eg 4 (by decide), eg 5 (by decide), eg 6 (by decide), eg 7 (by decide), eg 8 (by decide), eg 9 (by decide), eg 10 (by decide), eg 11 (by decide)]
      · rw [e1]
        rcases q3 with y | ⟨y1, a, yy, y2, y3, y4, y5⟩
        · left
          rw [eg 13 (by decide)]
          exact y
        · right
          rw [eg 13 (by decide), eg 12 (by decide)]
          exact ⟨y1, a, yy, y2, y3, hh a (by omega) (nm y4 (fun _ z => by cases z)) (na y4 (fun _ _ z => by cases z)) _ y4, y5⟩
    by_cases hkm : 8 * nv (s 10) + k = m
    · rw [hkm] at oldf p1 ⊢
      obtain ⟨ga, a1, a2, a3⟩ := harr
      refine ⟨p1, hmc, ⟨ga, a1, fun f' hf' => ?_⟩, fun f' hf' => ?_⟩
      · rw [n7m] at hf'
        by_cases hfc : f' = c
        · rw [hfc, bn]; exact a3
        · rw [bo _ _ (fun z => hfc z.2)]
          exact a2 f' (by omega)
      · rw [n7m] at hf'
        by_cases hfc : f' = c
        · rw [hfc, bn]
          refine ⟨s' 27, s' 19, fun _ => ⟨rfl, rfl⟩, by omega, .null, hnew, Or.inl ⟨h13, rfl⟩⟩
        · exact oldf f' (by omega) (fun z => hfc z.2)
    · rw [CMp, e7o _ hkm]
      have nmm : A.2.1 (8 * nv (s 10) + k) ≠ A.2.1 m := by
        intro z
        rw [hk0] at z
        exact hkm (by rw [hk0, d3 k k0 hk' hk1 z])
      refine ⟨p1, ?_, ⟨gg, ?_, fun f' hf' => ?_⟩, fun f' hf' => oldf f' hf' (fun z => hkm z.1)⟩
      · have eM : cM (bF A m c h.length) t' (8 * nv (s 10) + k) 0 = cM A t (8 * nv (s 10) + k) 0 := by
          unfold cM
          rw [ht 4 (by decide) (by decide), ht 5 (by decide) (by decide), ht 6 (by decide) (by decide), e7o _ hkm, hC_congr (t := t) (e7o _ hkm) (fun f' hf' => h8 _ f' 9 (by omega) (by decide) (fun z => hkm z.1))]
          rfl
        rw [eM]
        exact hh _ (by show A.2.1 _ ≠ 5; omega) nmm (na p2 (fun _ _ z => by cases z)) _ p2
      · exact hh _ (by show A.2.1 _ + 1 ≠ 5; omega) (nm p3 (fun _ z => by cases z)) (by show A.2.1 _ + 1 ≠ _; omega) _ p3
      · rw [bo _ _ (fun z => hkm z.1)]
        exact p4 f' hf'
  · unfold dA
    rw [e3]
    have ltl : ∀ k f', k < nv (t 3 (nv (s 10))) → f' < nv (t 7 (8 * nv (s 10) + k)) → A.2.2 (8 * nv (s 10) + k) f' < h.length := by
      intro k f' hk' hf'
      obtain ⟨oc, pi, sh, -, hx, -⟩ := (c4 k hk').fld hf'
      exact (List.getElem?_eq_some_iff.mp hx).1
    have lim : ∀ k f', f' < nv (t' 7 (8 * nv (s 10) + k)) → ¬ (8 * nv (s 10) + k = m ∧ f' = c) → f' < nv (t 7 (8 * nv (s 10) + k)) := by
      intro k f' hf' hne
      by_cases hkm : 8 * nv (s 10) + k = m
      · rw [hkm, n7m] at hf'
        rw [hkm, hc]
        have : f' ≠ c := fun z => hne ⟨hkm, z⟩
        omega
      · rw [e7o _ hkm] at hf'
        exact hf'
    refine ⟨d1, fun k hk' => ⟨(d2 k hk').1, fun f' hf' => ?_⟩, d3, fun k k' f' f2 hk' hk2 hf' hf2 he => ?_⟩
    · by_cases hmf : 8 * nv (s 10) + k = m ∧ f' = c
      · rw [hmf.1, hmf.2, bn]
        have a12 : t' 8 (fI m c 12) = 0 := h12
        have a13 : t' 8 (fI m c 13) = 0 := h13
        rw [a12, a13]
        exact ⟨by omega, Nat.zero_le _, fun z => absurd z (Nat.not_lt_zero _)⟩
      · have hI := (hD.2.1 _ (Nat.le_refl _)).2 k hk'
        have h30 := hI.2.2.2.1.2
        have hf3 := lim k f' hf' hmf
        rw [bo _ _ hmf, h8 _ f' 12 (by omega) (by decide) hmf, h8 _ f' 13 (by omega) (by decide) hmf]
        exact (d2 k hk').2 f' hf3
    · by_cases ha : 8 * nv (s 10) + k = m ∧ f' = c
      · by_cases hb : 8 * nv (s 10) + k' = m ∧ f2 = c
        · exact ⟨by omega, by omega⟩
        · exfalso
          rw [ha.1, ha.2, bn, bo _ _ hb] at he
          have := ltl k' f2 hk2 (lim k' f2 hf2 hb)
          omega
      · by_cases hb : 8 * nv (s 10) + k' = m ∧ f2 = c
        · exfalso
          rw [hb.1, hb.2, bn, bo _ _ ha] at he
          have := ltl k f' hk' (lim k f' hf' ha)
          omega
        · rw [bo _ _ ha, bo _ _ hb] at he
          exact d4 k k' f' f2 hk' hk2 (lim k f' hf' ha) (lim k' f2 hf2 hb) he
