/-! WHILE A TEXT IS READ: the draft is edition E -/
def lastF (s : Nat → Int32) (t : Nat → Nat → Int32) : Option (Nat × Nat) := match mLast s t with
  | none => none
  | some m => if t 7 m = 0 then none else some (m, nv (t 7 m) - 1)
def PD (s : Nat → Int32) (t : Nat → Nat → Int32) : Nat → Nat → Int32 → Int32 → Prop := fun m f oc pi => lastF s t = some (m, f) → oc = s 27 ∧ pi = s 19
def dTx (E : Nat) (x : Nat → Int32) : Nat → Int32 := fun i => x (i - 3000 * E)
/-- Draft's own cell -/
def dC (A : Bk) (s : Nat → Int32) (t : Nat → Nat → Int32) (o1 o2 : Int32) : List Value := [.ref 6, .ref (A.1 (nv (s 10))), va_rf ((mLast s t).map A.2.1), va_rf ((lastF s t).map fun z => A.2.2 z.1 z.2), .int o1, .int o2]
/-- the draft's cells lie from N on, apart from each other; its texts within the first n signs -/
def dA (A : Bk) (N n : Nat) (t : Nat → Nat → Int32) (E : Nat) : Prop :=
  N ≤ A.1 E ∧ (∀ k, k < nv (t 3 E) → N ≤ A.2.1 (8 * E + k) ∧ ∀ f, f < nv (t 7 (8 * E + k)) → N ≤ A.2.2 (8 * E + k) f ∧ nv (t 8 (fI (8 * E + k) f 12)) + nv (t 8 (fI (8 * E + k) f 13)) ≤ 3000 * E + n ∧ (0 < nv (t 8 (fI (8 * E + k) f 13)) → 3000 * E ≤ nv (t 8 (fI (8 * E + k) f 12)))) ∧
  (∀ k k', k < nv (t 3 E) → k' < nv (t 3 E) → A.2.1 (8 * E + k) = A.2.1 (8 * E + k') → k = k') ∧
  ∀ k k' f f', k < nv (t 3 E) → k' < nv (t 3 E) → f < nv (t 7 (8 * E + k)) → f' < nv (t 7 (8 * E + k')) → A.2.2 (8 * E + k) f = A.2.2 (8 * E + k') f' → k = k' ∧ f = f'
def DR (V : Prop) (A : Bk) (N n : Nat) (h : im_H) (s : Nat → Int32) (t : Nat → Nat → Int32) : Prop :=
  25 ≤ N ∧ (∃ o1 o2, h[5]? = some (.inr (0, dC A s t o1 o2)) ∧ (V → o1 = s 13 ∧ o2 = s 14)) ∧ CL h ∧ h[1]? = some (.inl (1, 3000, .inl (t 1))) ∧ CEd A h t (nv (s 10)) (fun _ => 0) (fun _ _ => -1) (PD s t) (dTx (nv (s 10)) (t 1)) ∧ dA A N n t (nv (s 10))
theorem lastF_some {s : Nat → Int32} {t : Nat → Nat → Int32} {m f : Nat} (hD : DI s t) (h : lastF s t = some (m, f)) : mLast s t = some m ∧ f + 1 = nv (t 7 m) ∧ ∃ k, m = 8 * nv (s 10) + k ∧ k + 1 = nv (t 3 (nv (s 10))) := by
  unfold lastF at h
  cases hm : mLast s t with
  | none => rw [hm] at h; cases h
  | some m' =>
    rw [hm] at h
    dsimp only at h
    obtain ⟨-, hM, h1, h2, h3⟩ := mLast_some hD hm
    split at h
    · cases h
    · rename_i h7
      have := nv_pos hM.2.2.2.1 h7
      cases h
      exact ⟨rfl, by omega, m - 8 * nv (s 10), by omega, by omega⟩
/-- the latest field is told anew: its cell alone has changed -/
theorem DR_fld {V : Prop} {A : Bk} {N n : Nat} {h : im_H} {s s' : Nat → Int32} {t t' : Nat → Nat → Int32} {m f : Nat} {o1 o2 : Int32} (hD : DI s t) (hR : DR V A N n h s t) (hl : lastF s t = some (m, f)) (hs : s' 10 = s 10) (ht : ∀ j, j ≠ 8 → t' j = t j) (h8 : ∀ m' f' w', f' < 30 → w' < 14 → ¬ (m' = m ∧ f' = f) → t' 8 (fI m' f' w') = t 8 (fI m' f' w')) (h9 : t' 8 (fI m f 9) = t 8 (fI m f 9))
    {sh : Value} {h' : im_H} (hh : ∀ k, k ≠ A.2.2 m f → k ≠ 5 → ∀ x, h[k]? = some x → h'[k]? = some x) (hn : h'[A.2.2 m f]? = some (.inr (3, cF (gF t' m f) (s' 27) (s' 19) sh (-1)))) (h5 : h'[5]? = some (.inr (0, dC A s t o1 o2))) (hov : V → o1 = s' 13 ∧ o2 = s' 14) (hsh : CSh h' sh (gF t' m f) (dTx (nv (s 10)) (t 1))) (htx : nv (t' 8 (fI m f 12)) + nv (t' 8 (fI m f 13)) ≤ 3000 * nv (s 10) + n ∧ (0 < nv (t' 8 (fI m f 13)) → 3000 * nv (s 10) ≤ nv (t' 8 (fI m f 12)))) : DR V A N n h' s' t' := by
  obtain ⟨hm, hf, k0, hk0, hk1⟩ := lastF_some hD hl
  obtain ⟨r1, -, ⟨⟨b1, b2, w, c, fr', q, r6⟩, ⟨g7, r7⟩⟩, r0, ⟨c1, ⟨g, c2, c3⟩, c4⟩, ⟨d1, d2, d3, d4⟩⟩ := hR
  have hN : N ≤ A.2.2 m f := by
    rw [hk0]
    exact ((d2 k0 (by omega)).2 f (by rw [← hk0]; omega)).1
  have e3 : t' 3 = t 3 := ht 3 (by decide)
  have e7 : t' 7 = t 7 := ht 7 (by decide)
  have e1 : t' 1 = t 1 := ht 1 (by decide)
  have eL : mLast s' t' = mLast s t := by unfold mLast; rw [hs, e3]
  have eF : lastF s' t' = lastF s t := by unfold lastF; rw [eL, e7]
  have fcell : ∃ oc pi sh pl, h[A.2.2 m f]? = some (.inr (3, cF (gF t m f) oc pi sh pl)) := by
    obtain ⟨oc, pi, sh, -, hx, -⟩ := (c4 k0 (by omega)).fld (f := f) (by rw [← hk0]; omega)
    rw [← hk0] at hx
    exact ⟨_, _, _, _, hx⟩
  obtain ⟨oc0, pi0, sh0, pl0, hx0⟩ := fcell
  have ne : ∀ {k : Nat} {x : im_C}, h[k]? = some x → (∀ fs, x ≠ .inr (3, fs)) → k ≠ A.2.2 m f := by
    intro k x hx hne z
    rw [z, hx0] at hx
    exact hne _ (Option.some.inj hx).symm
  unfold DR
  rw [hs]
  refine ⟨r1, ⟨o1, o2, ?_, hov⟩, ⟨⟨b1, b2, w, c, fr', q, hh 6 (by omega) (by decide) _ r6⟩, ⟨g7, hh 7 (by omega) (by decide) _ r7⟩⟩, ?_, ⟨?_, ⟨g, ?_, ?_⟩, ?_⟩, ?_⟩
  · rw [h5]
    unfold dC
    rw [eL, eF, hs]
  · rw [e1]
    exact hh 1 (by omega) (by decide) _ r0
  · rw [e3]
    exact hh _ (ne c1 (fun _ z => by cases z)) (by omega) _ c1
  · exact hh _ (ne c2 (fun _ z => by cases z)) (by omega) _ c2
  · rw [e3]; exact c3
  · rw [e3]
    intro k hk'
    obtain ⟨p1, p2, ⟨gg, p3, p4⟩, p5⟩ := c4 k hk'
    have hI := (hD.2.1 _ (Nat.le_refl _)).2 k hk'
    have h30 := hI.2.2.2.1.2
    refine ⟨p1, ?_, ⟨gg, hh _ (ne p3 (fun _ z => by cases z)) (by omega) _ p3, by rw [e7]; exact p4⟩, ?_⟩
    · have eM : cM A t' (8 * nv (s 10) + k) 0 = cM A t (8 * nv (s 10) + k) 0 := by
        unfold cM
        rw [ht 4 (by decide), ht 5 (by decide), ht 6 (by decide), e7, hC_congr (t := t) (by rw [e7]) (fun f' hf' => ?_)]
        by_cases hmf : 8 * nv (s 10) + k = m ∧ f' = f
        · rw [hmf.1, hmf.2]; exact h9
        · exact h8 _ f' 9 (by omega) (by decide) hmf
      rw [eM]
      exact hh _ (ne p2 (fun _ z => by cases z)) (by omega) _ p2
    · rw [e7]
      intro f' hf'
      by_cases hmf : 8 * nv (s 10) + k = m ∧ f' = f
      · rw [hmf.1, hmf.2]
        refine ⟨s' 27, s' 19, fun _ => ⟨rfl, rfl⟩, by omega, sh, hn, ?_⟩
        rw [e1]
        exact hsh
      · obtain ⟨oc, pi, hp, q1, sh1, q2, q3⟩ := p5 f' hf'
        have hne : A.2.2 (8 * nv (s 10) + k) f' ≠ A.2.2 m f := by
          intro z
          rw [hk0] at z
          obtain ⟨z1, z2⟩ := d4 k k0 f' f hk' (by omega) hf' (by rw [← hk0]; omega) z
          exact hmf ⟨by rw [hk0, z1], z2⟩
        have eg : ∀ w, w < 14 → gF t' (8 * nv (s 10) + k) f' w = gF t (8 * nv (s 10) + k) f' w := fun w hw => h8 _ f' w (by omega) hw hmf
        refine ⟨oc, pi, fun z => ?_, q1, sh1, ?_, ?_⟩
        · rw [eF, hl] at z
          have z := Option.some.inj z
          exact absurd ⟨(Prod.mk.inj z).1.symm, (Prod.mk.inj z).2.symm⟩ hmf
        · rw [hh _ hne (by omega) _ q2]
          unfold cF
          rw [eg 0 (by decide), eg 1 (by decide), eg 2 (by decide), eg 3 (by decide), eg 4 (by decide), eg 5 (by decide), eg 6 (by decide), eg 7 (by decide), eg 8 (by decide), eg 9 (by decide), eg 10 (by decide), eg 11 (by decide)]
        · rw [e1]
          rcases q3 with y | ⟨y1, a, yy, y2, y3, y4, y5⟩
          · left
            rw [eg 13 (by decide)]
            exact y
          · right
            rw [eg 13 (by decide), eg 12 (by decide)]
            exact ⟨y1, a, yy, y2, y3, hh a (ne y4 (fun _ z => by cases z)) (by omega) _ y4, y5⟩
  · unfold dA
    rw [e3, e7]
    refine ⟨d1, fun k hk' => ⟨(d2 k hk').1, fun f' hf' => ?_⟩, d3, d4⟩
    have hI := (hD.2.1 _ (Nat.le_refl _)).2 k hk'
    have h30 := hI.2.2.2.1.2
    obtain ⟨u1, u2, u3⟩ := (d2 k hk').2 f' hf'
    by_cases hmf : 8 * nv (s 10) + k = m ∧ f' = f
    · rw [hmf.1, hmf.2] at u1 ⊢
      exact ⟨u1, htx.1, htx.2⟩
    · rw [h8 _ f' 12 (by omega) (by decide) hmf, h8 _ f' 13 (by omega) (by decide) hmf]
      exact ⟨u1, u2, u3⟩
