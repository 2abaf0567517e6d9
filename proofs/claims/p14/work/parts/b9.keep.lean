/-! AN EDITION IS KEPT -/
theorem CEd_fr {A : Bk} {h h' : im_H} {t : Nat → Nat → Int32} {e : Nat} {lb : Nat → Int32} {pl : Nat → Nat → Int32} {P : Nat → Nat → Int32 → Int32 → Prop} {tx : Nat → Int32} (hk : ∀ k, 25 ≤ k → h'[k]? = h[k]?) (hA : 25 ≤ A.1 e) (hE : CEd A h t e lb pl P tx) : CEd A h' t e lb pl P tx := by
  obtain ⟨c1, ⟨g, c2, c3⟩, c4⟩ := hE
  exact ⟨by rw [hk _ hA]; exact c1, ⟨g, by rw [hk _ (by omega)]; exact c2, c3⟩, fun k hk' => CMp_fr hk (c4 k hk')⟩
theorem c_463 (d : Nat) {A : Bk} {h : im_H} {t : Nat → Nat → Int32} {N n E : Nat} {P : Nat → Nat → Int32 → Int32 → Prop} {tx : Nat → Int32} {v1 v4 v5 v6 v7 v8 : Value} {g : Nat → Option Nat} {l : List Value} {Q : Option Value → im_H → Prop} (hN : 25 ≤ N) (hE6 : E < 6) (h0 : h[0]? = some (.inr (7, [.ref 1, v1, .ref 2, .int (nI E), v4, v5, v6, v7, v8, .ref 10]))) (h2 : h[2]? = some (.inl (5, 6, .inr (.inr (.inr (.inr g)))))) (h10 : h[10]? = some (.inr (4, l))) (hl : l.length = 8) (hD : Dr t E) (hA : dA A N n t E) (hE : CEd A h t E (fun _ => 0) (fun _ _ => -1) P tx)
    (k : ∀ h' z, h'.length = h.length → im_sz h' = im_sz h → (∀ k, k < N → k ≠ 0 → k ≠ 2 → k ≠ 10 → h'[k]? = h[k]?) → h'[0]? = some (.inr (7, [.ref 1, v1, .ref 2, .int (nI (E + 1)), .ref (A.1 E), v5, v6, v7, v8, .ref 10])) → h'[2]? = some (.inl (5, 6, .inr (.inr (.inr (.inr (va_up g E (some (A.1 E)))))))) → h'[10]? = some (.inr (4, cI .null 0 z)) → CEd A h' t E (lbS t) (plS t) P tx → Q none h') : gC (gD (d + 5)) 463 [.ref 0, .ref (A.1 E)] h Q := by
  have hNE := hA.1
  refine gC.of (q := me_463.2) rfl (Nat.le_of_ble_eq_true rfl) rfl ?_
  refine gG.step (cd := cd_463) rfl (fun _ => rfl) ?_
  refine gG.vir rfl (hE.1) rfl rfl (Nat.le_of_ble_eq_true rfl) rfl rfl (Nat.le_of_ble_eq_true rfl) ?_
  refine c_130 d hD hA hE (fun H hl1 hz1 hk1 hE1 => ?_)
  show gG _ _ _ _ 4 _ [] H Q
  have H0 := (hk1 0 (by omega)).trans h0
  have H2 := (hk1 2 (by omega)).trans h2
  have H10 := (hk1 10 (by omega)).trans h10
  refine gG.step rfl (fun _ => rfl) ?_
  refine gG.get rfl (H0) rfl ?_
  refine gG.step rfl (fun _ => rfl) ?_
  refine gG.get rfl (H0) rfl ?_
  refine gG.step rfl (fun _ => rfl) ?_
  refine gG.aast (j := E) rfl H2 hE1.1 rfl hE6 (by decide) ?_
  have H0a : (H.set 2 (.inl (5, 6, .inr (.inr (.inr (.inr (va_up g E (some (A.1 E)))))))))[0]? = some (.inr (7, [.ref 1, v1, .ref 2, .int (nI E), v4, v5, v6, v7, v8, .ref 10])) := by rw [set_ne (by decide)]; exact H0
  have H10a : (H.set 2 (.inl (5, 6, .inr (.inr (.inr (.inr (va_up g E (some (A.1 E)))))))))[10]? = some (.inr (4, l)) := by rw [set_ne (by decide)]; exact H10
  have H2a : (H.set 2 (.inl (5, 6, .inr (.inr (.inr (.inr (va_up g E (some (A.1 E)))))))))[2]? = some (.inl (5, 6, .inr (.inr (.inr (.inr (va_up g E (some (A.1 E)))))))) := set_at H2
  have Hka : ∀ k, k ≠ 2 → (H.set 2 (.inl (5, 6, .inr (.inr (.inr (.inr (va_up g E (some (A.1 E)))))))))[k]? = H[k]? := fun k hk => set_ne hk
  have Hla : (H.set 2 (.inl (5, 6, .inr (.inr (.inr (.inr (va_up g E (some (A.1 E))))))))).length = H.length := List.length_set
  have Hza : im_sz (H.set 2 (.inl (5, 6, .inr (.inr (.inr (.inr (va_up g E (some (A.1 E))))))))) = im_sz H := by
    refine im_sz_set H2 ?_
    rfl
  show gG _ _ _ _ 14 _ [] (H.set 2 (.inl (5, 6, .inr (.inr (.inr (.inr (va_up g E (some (A.1 E)))))))))  Q
  generalize H.set 2 (.inl (5, 6, .inr (.inr (.inr (.inr (va_up g E (some (A.1 E)))))))) = Ha at H0a H10a H2a Hka Hla Hza
  iterate 2 refine gG.step rfl (fun _ => rfl) ?_
  refine gG.get rfl (H0a) rfl ?_
  iterate 2 refine gG.step rfl (fun _ => rfl) ?_
  refine gG.put (k := 3) rfl H0a (Nat.le_of_ble_eq_true rfl) rfl rfl ?_
  iterate 2 refine gG.step rfl (fun _ => rfl) ?_
  refine gG.put (k := 4) rfl (set_at H0a) (Nat.le_of_ble_eq_true rfl) rfl rfl ?_
  rw [List.set_set]
  have H0b : (Ha.set 0 (.inr (7, [.ref 1, v1, .ref 2, .int (nI E + 1), .ref (A.1 E), v5, v6, v7, v8, .ref 10])))[0]? = some (.inr (7, [.ref 1, v1, .ref 2, .int (nI E + 1), .ref (A.1 E), v5, v6, v7, v8, .ref 10])) := set_at H0a
  have Hkb : ∀ k, k ≠ 0 → (Ha.set 0 (.inr (7, [.ref 1, v1, .ref 2, .int (nI E + 1), .ref (A.1 E), v5, v6, v7, v8, .ref 10])))[k]? = Ha[k]? := fun k hk => set_ne hk
  have Hlb : (Ha.set 0 (.inr (7, [.ref 1, v1, .ref 2, .int (nI E + 1), .ref (A.1 E), v5, v6, v7, v8, .ref 10]))).length = Ha.length := List.length_set
  have Hzb : im_sz (Ha.set 0 (.inr (7, [.ref 1, v1, .ref 2, .int (nI E + 1), .ref (A.1 E), v5, v6, v7, v8, .ref 10]))) = im_sz Ha := by
    refine im_sz_set H0a ?_
    rfl
  show gG _ _ _ _ 29 _ [] (Ha.set 0 (.inr (7, [.ref 1, v1, .ref 2, .int (nI E + 1), .ref (A.1 E), v5, v6, v7, v8, .ref 10]))) Q
  generalize Ha.set 0 (.inr (7, [.ref 1, v1, .ref 2, .int (nI E + 1), .ref (A.1 E), v5, v6, v7, v8, .ref 10])) = Hb at H0b Hkb Hlb Hzb
  have H10b : Hb[10]? = some (.inr (4, l)) := (Hkb 10 (by decide)).trans H10a
  refine gG.step rfl (fun _ => rfl) ?_
  refine gG.get rfl (H0b) rfl ?_
  refine gG.step rfl (fun _ => rfl) ?_
  refine gG.vir rfl (H10b) rfl rfl (Nat.le_of_ble_eq_true rfl) rfl rfl (Nat.le_of_ble_eq_true rfl) ?_
  refine c_257n (d + 1) hl ⟨fr.rf, H10b⟩ (fun Hc hI => ?_)
  obtain ⟨⟨i1, i2, i3⟩, hI10⟩ := hI
  have far : ∀ k, 25 ≤ k → Hc[k]? = H[k]? := fun k hk => by rw [i3 k (by omega), Hkb k (by omega), Hka k (by omega)]
  rw [nI_1] at H0b
  refine gG.done rfl (fun _ => rfl) (k Hc _ (by omega) (by omega) (fun k hk a b c => ?_) ?_ ?_ hI10 (CEd_fr far (by omega) hE1))
  · rw [i3 k (by omega), Hkb k a, Hka k b]
    exact hk1 k hk
  · rw [i3 0 (by decide)]; exact H0b
  · rw [i3 2 (by decide), Hkb 2 (by decide)]; exact H2a
/-! WHAT CAME IN stays beside a text that is refused -/
section IR2
variable {A : Bk} {h h' : im_H} {s s' : Nat → Int32} {t t' : Nat → Nat → Int32} {m : Nat}
theorem cFn_c2 (h7 : t' 7 m = t 7 m) (h8 : ∀ f w, f < nv (t 7 m) → w < 14 → t' 8 (fI m f w) = t 8 (fI m f w)) (i : Nat) : cFn t' m i = cFn t m i := by
  unfold cFn
  rw [h7, sr_congr (p := fun f => !decide (t' 8 (fI m f 0) = 0)) (q := fun f => !decide (t 8 (fI m f 0) = 0)) (fun f h1 h2 => by rw [h8 f 0 (by omega) (by decide)])]
theorem iS_c2 (h7 : t' 7 m = t 7 m) (h8 : ∀ f w, f < nv (t 7 m) → w < 14 → t' 8 (fI m f w) = t 8 (fI m f w)) (h11 : t' 11 = t 11) : ∀ c, iS t' m c = iS t m c
  | 0 => by rw [iS, iS, cFn_c2 h7 h8]
  | c + 1 => by
    rw [iS, iS, iS_c2 h7 h8 h11 c, h7, h11]
    by_cases hc : 12 < c + 1 ∧ (iS t m c).2.1 < nv (t 7 m)
    · rw [if_pos hc, if_pos hc]
      unfold iNx iEnd
      simp only [h8 _ 3 hc.2 (by decide), h8 _ 4 hc.2 (by decide), h8 _ 5 hc.2 (by decide), h8 _ 8 hc.2 (by decide), cFn_c2 h7 h8]
    · rw [if_neg hc, if_neg hc]
theorem bTn_c2 : ∀ n, (∀ f w, f < n → w < 14 → t' 8 (fI m f w) = t 8 (fI m f w)) → bTn t' m n = bTn t m n
  | 0, _ => rfl
  | n + 1, h => by rw [bTn, bTn, bTn_c2 n (fun f w a b => h f w (by omega) b), h n 0 (by omega) (by decide), h n 5 (by omega) (by decide), h n 3 (by omega) (by decide)]
theorem IR_k2 (hI : MI s t) (hk : h'[10]? = h[10]?) (h23 : s' 23 = s 23) (h24 : s' 24 = s 24) (h25 : s' 25 = s 25) (h10 : s' 10 = s 10) (h3 : ∀ e, e ≠ nv (s 10) → t' 3 e = t 3 e) (hj : ∀ j M, 4 ≤ j → j ≤ 7 → M < 8 * nv (s 10) → t' j M = t j M) (h8 : ∀ M f w, M < 8 * nv (s 10) → f < 30 → w < 14 → t' 8 (fI M f w) = t 8 (fI M f w)) (h11 : t' 11 = t 11) (hR : IR A h s t) : IR A h' s' t' := by
  rcases hR with ⟨z, h1, h2⟩ | ⟨m, h1, h2, hh, hl⟩
  · exact Or.inl ⟨z, by rw [hk]; exact h1, by rw [h23]; exact h2⟩
  · have hne : ¬ s 10 = 0 := by
      intro y
      unfold mHandO at hh
      rw [if_pos y] at hh
      cases hh
    have hp := nv_pos hI.1 hne
    have hh' := hh
    unfold mHandO at hh'
    rw [if_neg hne] at hh'
    obtain ⟨k, hkk, hm, -⟩ := mMapO_k hh'
    have hM := (mMapO_some hI (by omega) hh').2.1
    have h8k := (hI.2 (nv (s 10) - 1) (by omega)).1.2
    have hm8 : m < 8 * nv (s 10) := by omega
    have h30 := hM.2.2.2.1.2
    have e7 := hj 7 m (by decide) (by decide) hm8
    have e8 : ∀ f w, f < nv (t 7 m) → w < 14 → t' 8 (fI m f w) = t 8 (fI m f w) := fun f w a b => h8 m f w hm8 (by omega) b
    refine Or.inr ⟨m, ?_, ?_, ?_, ?_⟩
    · rw [hk, h23, iS_c2 e7 e8 h11]
      exact h1
    · rw [h25, h10]; exact h2
    · rw [h24]
      unfold mHandO mMapO
      rw [h10, if_neg hne, h3 _ (by omega)]
      rw [sr_congr (p := mMapP t' (nv (s 10) - 1) (s 24)) (q := mMapP t (nv (s 10) - 1) (s 24)) (fun k h1 h2 => ?_)]
      · exact hh'
      · unfold mMapP
        rw [hj 4 _ (by decide) (by decide) (by omega)]
    · rw [h23, e7, bTn_c2 _ e8]
      exact hl
end IR2
