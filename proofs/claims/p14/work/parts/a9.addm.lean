/-- a map more in the book -/
def bM (A : Bk) (m o : Nat) : Bk := (A.1, fun M => if M = m then o else A.2.1 M, A.2.2)
theorem DR_map {V : Prop} {A : Bk} {N n m c : Nat} {h h' : im_H} {s : Nat → Int32} {t t' : Nat → Nat → Int32} {o1 o2 : Int32} (hD : DI s t) (hR : DR V A N n h s t) (hc : nv (t 3 (nv (s 10))) = c) (hc8 : c < 8) (hm : m = 8 * nv (s 10) + c) (ht : ∀ j, j = 1 ∨ j = 8 → t' j = t j) (h3 : t' 3 (nv (s 10)) = nI (c + 1)) (h4 : ∀ j M, 4 ≤ j → j ≤ 7 → M ≠ m → t' j M = t j M) (h7 : t' 7 m = 0)
    (hN : N ≤ h.length) (hh : ∀ k, k ≠ 5 → k ≠ A.1 (nv (s 10)) → k ≠ A.1 (nv (s 10)) + 1 → ∀ x, h[k]? = some x → h'[k]? = some x) (h5 : h'[5]? = some (.inr (0, [.ref 6, .ref (A.1 (nv (s 10))), .ref h.length, .null, .int o1, .int o2]))) (rv : V → o1 = s 13 ∧ o2 = s 14) (hed : h'[A.1 (nv (s 10))]? = some (.inr (2, [.ref (A.1 (nv (s 10)) + 1), .int (nI (c + 1))]))) (harr : ∃ ga, h'[A.1 (nv (s 10)) + 1]? = some (.inl (9, 8, .inr (.inr (.inr (.inr ga))))) ∧ (∀ k, k < c → ga k = some (A.2.1 (8 * nv (s 10) + k))) ∧ ga c = some h.length) (hnew : h'[h.length]? = some (.inr (6, [.int (t' 4 m), .int (t' 5 m), .int (t' 6 m), .ref (h.length + 1), .int 0, .int 0, .int 0]))) (hna : h'[h.length + 1]? = some (nArr 3 30)) : DR V (bM A m h.length) N n h' s t' := by
  obtain ⟨r1, -, ⟨⟨b1, b2, w, cc, fr', q, r6⟩, ⟨g7, r7⟩⟩, r0, ⟨c1, ⟨g, c2, c3⟩, c4⟩, ⟨d1, d2, d3, d4⟩⟩ := hR
  have hE := (hD.2.1 _ (Nat.le_refl _)).2
  have n3 : nv (t' 3 (nv (s 10))) = c + 1 := by rw [h3, nv_nI (by omega)]
  have ne : ∀ {k : Nat} {x : im_C}, h[k]? = some x → (∀ fs, x ≠ .inr (2, fs)) → k ≠ A.1 (nv (s 10)) := by
    intro k x hx hne z
    rw [z, c1] at hx
    exact hne _ (Option.some.inj hx).symm
  have na : ∀ {k : Nat} {x : im_C}, h[k]? = some x → (∀ n' y, x ≠ .inl (9, n', y)) → k ≠ A.1 (nv (s 10)) + 1 := by
    intro k x hx hne z
    rw [z, c2] at hx
    exact hne _ _ (Option.some.inj hx).symm
  have eL : mLast s t' = some m := by
    unfold mLast
    rw [h3, if_neg (nI_ne0 (by omega) (by omega)), nv_nI (by omega)]
    congr 1
    omega
  have eF : lastF s t' = none := by
    unfold lastF
    rw [eL]
    dsimp only
    rw [if_pos h7]
  have bo : ∀ M, M ≠ m → (bM A m h.length).2.1 M = A.2.1 M := fun M hne => if_neg hne
  have bn : (bM A m h.length).2.1 m = h.length := if_pos rfl
  have e1 : t' 1 = t 1 := ht 1 (by decide)
  have e8 : t' 8 = t 8 := ht 8 (by decide)
  have old : ∀ k, k < c → 8 * nv (s 10) + k ≠ m := by intro k hk; omega
  have e7n : nv (t' 7 m) = 0 := by rw [h7]; rfl
  unfold DR
  refine ⟨r1, ⟨o1, o2, ?_, rv⟩, ⟨⟨b1, b2, w, cc, fr', q, hh 6 (by decide) (by omega) (by omega) _ r6⟩, ⟨g7, hh 7 (by decide) (by omega) (by omega) _ r7⟩⟩, ?_, ⟨?_, ?_, ?_⟩, ?_⟩
  · rw [h5]
    unfold dC
    rw [eL, eF]
    show _ = some (Sum.inr (0, [Value.ref 6, Value.ref (A.1 (nv (s 10))), Value.ref ((bM A m h.length).2.1 m), Value.null, Value.int o1, Value.int o2]))
    rw [bn]
  · rw [e1]
    exact hh 1 (by decide) (by omega) (by omega) _ r0
  · rw [h3]
    exact hed
  · obtain ⟨ga, a1, a2, a3⟩ := harr
    refine ⟨ga, a1, fun k hk => ?_⟩
    rw [n3] at hk
    by_cases hkc : k = c
    · rw [hkc, ← hm, bn]; exact a3
    · rw [bo _ (old k (by omega))]
      exact a2 k (by omega)
  · rw [n3]
    intro k hk
    by_cases hkc : k = c
    · rw [hkc, ← hm]
      refine ⟨by rw [bn]; omega, ?_, ⟨fun _ => none, ?_, fun f hf => ?_⟩, fun f hf => ?_⟩
      · rw [bn, hnew]
        unfold cM
        have hC0 : hC t' m = false := by unfold hC; rw [e7n]; rfl
        rw [bn, h7, hC0]
        rfl
      · rw [bn]; exact hna
      · rw [e7n] at hf; exact absurd hf (Nat.not_lt_zero _)
      · rw [e7n] at hf; exact absurd hf (Nat.not_lt_zero _)
    · have hkm := old k (by omega)
      have hmk := c4 k (by omega)
      obtain ⟨p1, p2, ⟨gg, p3, p4⟩, p5⟩ := hmk
      have h30 := (hE k (by omega)).2.2.2.1.2
      unfold CMp
      rw [bo _ hkm, h4 7 _ (by decide) (by decide) hkm]
      refine ⟨p1, ?_, ⟨gg, hh _ (by omega) (ne p3 (fun _ z => by cases z)) (na p3 (fun _ _ z => by cases z)) _ p3, p4⟩, fun f hf => ?_⟩
      · have eM : cM (bM A m h.length) t' (8 * nv (s 10) + k) 0 = cM A t (8 * nv (s 10) + k) 0 := by
          unfold cM
          rw [h4 4 _ (by decide) (by decide) hkm, h4 5 _ (by decide) (by decide) hkm, h4 6 _ (by decide) (by decide) hkm, h4 7 _ (by decide) (by decide) hkm, hC_congr (t := t) (h4 7 _ (by decide) (by decide) hkm) (fun f _ => by rw [e8]), bo _ hkm]
        rw [eM]
        exact hh _ (by omega) (ne p2 (fun _ z => by cases z)) (na p2 (fun _ _ z => by cases z)) _ p2
      · obtain ⟨oc, pi, hp, q1, sh1, q2, q3⟩ := p5 f hf
        have eg : gF t' (8 * nv (s 10) + k) f = gF t (8 * nv (s 10) + k) f := by funext w; show t' 8 _ = t 8 _; rw [e8]
        rw [eg, e1]
        refine ⟨oc, pi, (fun z => absurd (eF.symm.trans z) (by intro y; cases y)), q1, sh1, hh _ (by show A.2.2 _ f ≠ 5; omega) (ne q2 (fun _ z => by cases z)) (na q2 (fun _ _ z => by cases z)) _ q2, ?_⟩
        rcases q3 with y | ⟨y1, a, yy, y2, y3, y4, y5⟩
        · exact Or.inl y
        · exact Or.inr ⟨y1, a, yy, y2, y3, hh a (by omega) (ne y4 (fun _ z => by cases z)) (na y4 (fun _ _ z => by cases z)) _ y4, y5⟩
  · have lm : ∀ k, k < c → A.2.1 (8 * nv (s 10) + k) < h.length := fun k hk => (List.getElem?_eq_some_iff.mp (c4 k (by omega)).2.1).1
    have l7 : ∀ k, k < c + 1 → ∀ f, f < nv (t' 7 (8 * nv (s 10) + k)) → k < c ∧ f < nv (t 7 (8 * nv (s 10) + k)) := by
      intro k hk f hf
      by_cases hkc : k = c
      · rw [hkc, ← hm, e7n] at hf
        exact absurd hf (Nat.not_lt_zero _)
      · rw [h4 7 _ (by decide) (by decide) (old k (by omega))] at hf
        exact ⟨by omega, hf⟩
    unfold dA
    rw [n3, e8]
    refine ⟨d1, fun k hk => ⟨?_, fun f hf => ?_⟩, fun k k' hk hk' he => ?_, fun k k' f f' hk hk' hf hf' he => ?_⟩
    · by_cases hkc : k = c
      · rw [hkc, ← hm, bn]; exact hN
      · rw [bo _ (old k (by omega))]
        exact (d2 k (by omega)).1
    · obtain ⟨a, b⟩ := l7 k hk f hf
      exact (d2 k (by omega)).2 f b
    · by_cases hkc : k = c
      · by_cases hkc' : k' = c
        · omega
        · exfalso
          rw [hkc, ← hm, bn, bo _ (old k' (by omega))] at he
          have := lm k' (by omega)
          omega
      · by_cases hkc' : k' = c
        · exfalso
          rw [hkc', ← hm, bn, bo _ (old k (by omega))] at he
          have := lm k (by omega)
          omega
        · rw [bo _ (old k (by omega)), bo _ (old k' (by omega))] at he
          exact d3 k k' (by omega) (by omega) he
    · obtain ⟨a, b⟩ := l7 k hk f hf
      obtain ⟨a', b'⟩ := l7 k' hk' f' hf'
      exact d4 k k' f f' (by omega) (by omega) b b' he
