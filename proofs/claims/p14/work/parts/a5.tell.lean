/-! A TEXT IS KEPT -/
theorem c_643 (d : Nat) {a q : Nat} (haq : a ≤ q) (hq : q < 2 ^ 31) (h : im_H) (Q : Option Value → im_H → Prop) (k : Q none h) : gC (gD (d + 1)) 643 [.int (nI a), .int (nI q)] h Q := by
  refine gC.of (q := me_643.2) rfl (Nat.le_of_ble_eq_true rfl) rfl ?_
  iterate 2 refine gG.step (cd := cd_643) rfl (fun _ => rfl) ?_
  refine gG.icmp (tgt := 37) rfl rfl (fun _ => ?_) (fun c => absurd ((c_ge (by omega) (by omega)).mpr haq) c)
  exact gG.done rfl (fun _ => rfl) (k)
theorem c_645 (d : Nat) {h : im_H} {x : Nat → Int32} {a q : Nat} (h1 : h[1]? = some (.inl (1, 3000, .inl x))) (hx : ∀ j, ps (x j) 126) (haq : a ≤ q) (hq : q ≤ 3000) (Q : Option Value → im_H → Prop) (k : Q (some (.ref h.length)) (h ++ [.inl (1, q - a, .inl (va_cpy x (fun _ => 0) a 0 (q - a)))])) : gC (gD (d + 2)) 645 [.ref 1, .int (nI a), .int (nI q)] h Q := by
  have hlen : 1 < h.length := (List.getElem?_eq_some_iff.mp h1).1
  have esub : nI q - nI a = nI (q - a) := pk_sub haq
  refine gC.of (q := me_645.2) rfl (Nat.le_of_ble_eq_true rfl) rfl ?_
  iterate 2 refine gG.step (cd := cd_645) rfl (fun _ => rfl) ?_
  refine gG.inv rfl (fun _ => rfl) (Nat.le_of_ble_eq_true rfl) rfl rfl (Nat.le_of_ble_eq_true rfl) ?_
  refine c_643 d haq (by omega) h _ ?_
  iterate 3 refine gG.step rfl (fun _ => rfl) ?_
  show gG _ _ _ _ 8 _ [Value.int (nI q - nI a)] h Q
  rw [esub]
  refine gG.step (L' := [some (.ref 1), some (.int (nI a)), some (.int (nI q)), some (.int (nI (q - a))), none]) rfl (fun _ => rfl) ?_
  refine gG.step rfl (fun _ => rfl) ?_
  refine gG.step (pc' := 12) (st' := [.ref h.length]) (L' := [some (.ref 1), some (.int (nI a)), some (.int (nI q)), some (.int (nI (q - a))), none]) (h' := h ++ [.inl (1, q - a, .inl (fun _ => 0))]) rfl (fun _ => ?_) ?_
  · show im_newa (im_nty 1) 1 12 _ [.int (nI (q - a))] h = _
    have hc : (nI (q - a)).toNatClampNeg = q - a := nI_clamp (by omega)
    simp only [im_newa, if_neg (nI_pos (n := q - a) (by omega)), hc, if_neg (show ¬ 536870912 < (q - a) * 8 by omega)]
    rfl
  refine gG.step (L' := [some (.ref 1), some (.int (nI a)), some (.int (nI q)), some (.int (nI (q - a))), some (.ref h.length)]) rfl (fun _ => rfl) ?_
  have h1' : (h ++ [.inl (1, q - a, .inl (fun _ => 0))])[1]? = some (.inl (1, 3000, .inl x)) := by
    rw [List.getElem?_append_left hlen]
    exact h1
  have hn' : (h ++ [.inl (1, q - a, .inl (fun _ => 0))] : im_H)[h.length]? = some (.inl (1, q - a, .inl (fun _ => 0))) := ap_at
  iterate 4 refine gG.step rfl (fun _ => rfl) ?_
  refine gG.step rfl (fun _ => rfl) ?_
  refine gG.alen rfl h1' rfl ?_
  iterate 3 refine gG.step rfl (fun _ => rfl) ?_
  show gG _ _ _ _ 24 _ [Value.int (nI (q - a)), Value.int (nI 3000 - nI a), Value.int 0, Value.ref h.length, Value.int (nI a), Value.ref 1] _ Q
  rw [show nI 3000 - nI a = nI (3000 - a) from pk_sub (by omega)]
  refine gG.inv rfl (fun _ => rfl) (Nat.le_of_ble_eq_true rfl) rfl rfl (Nat.le_of_ble_eq_true rfl) ?_
  refine gC.nat rfl (r := some (.int (if nI (q - a) < nI (3000 - a) then nI (q - a) else nI (3000 - a)))) (h' := h ++ [.inl (1, q - a, .inl (fun _ => 0))]) rfl ?_
  have em : (if nI (q - a) < nI (3000 - a) then nI (q - a) else nI (3000 - a)) = nI (q - a) := by
    by_cases hlt : q - a < 3000 - a
    · rw [if_pos ((nI_ltI (by omega) (by omega)).mpr hlt)]
    · rw [if_neg (fun z => hlt ((nI_ltI (by omega) (by omega)).mp z))]
      congr 1
      omega
  rw [em]
  show gG _ _ _ _ 27 _ [Value.int (nI (q - a)), Value.int 0, Value.ref h.length, Value.int (nI a), Value.ref 1] _ Q
  have hc1 : (nI a).toNatClampNeg = a := nI_clamp (by omega)
  have hc2 : (nI (q - a)).toNatClampNeg = q - a := nI_clamp (by omega)
  have hc3 : (0 : Int32).toNatClampNeg = 0 := rfl
  have hcp : im_ncopy 1 h.length (nI a) 0 (nI (q - a)) (h ++ [.inl (1, q - a, .inl (fun _ => 0))]) = some (none, h ++ [.inl (1, q - a, .inl (va_cpy x (fun _ => 0) a 0 (q - a)))]) := by
    unfold im_ncopy
    rw [h1', hn']
    dsimp only
    rw [if_pos ⟨rfl, rfl⟩, hc1, hc2, hc3, if_neg, if_pos]
    · rw [ap_set]
    · rw [List.all_eq_true]
      intro i _
      exact fits_ps (hx _)
    · rintro (z | z | z | z | z)
      · exact nI_pos (by omega) z
      · exact absurd z (by decide)
      · exact nI_pos (by omega) z
      · omega
      · omega
  refine gG.inv rfl (fun _ => rfl) (Nat.le_of_ble_eq_true rfl) rfl rfl (Nat.le_of_ble_eq_true rfl) ?_
  have hnat : im_nat 1921 [.ref 1, .int (nI a), .ref h.length, .int 0, .int (nI (q - a))] (h ++ [.inl (1, q - a, .inl (fun _ => 0))]) = some (none, h ++ [.inl (1, q - a, .inl (va_cpy x (fun _ => 0) a 0 (q - a)))]) := hcp
  refine gC.nat rfl hnat ?_
  refine gG.step rfl (fun _ => rfl) ?_
  exact gG.done rfl (fun _ => rfl) (k)
theorem c_644 (d : Nat) {h : im_H} {x : Nat → Int32} {a q : Nat} (h1 : h[1]? = some (.inl (1, 3000, .inl x))) (hx : ∀ j, ps (x j) 126) (ha : 1 ≤ a) (haq : a ≤ q) (hq : q ≤ 3000) (Q : Option Value → im_H → Prop) (k : Q (some (.ref h.length)) (h ++ [.inl (1, q - a, .inl (va_cpy x (fun _ => 0) a 0 (q - a)))])) : gC (gD (d + 3)) 644 [.ref 1, .int (nI a), .int (nI q)] h Q := by
  refine gC.of (q := me_644.2) rfl (Nat.le_of_ble_eq_true rfl) rfl ?_
  refine gG.step (cd := cd_644) rfl (fun _ => rfl) ?_
  refine gG.ifc (tgt := 10) rfl rfl (fun _ => ?_) (fun c => absurd (c_ne.mpr (nI_ne0 (by omega) (by omega))) c)
  iterate 3 refine gG.step rfl (fun _ => rfl) ?_
  refine gG.inv rfl (fun _ => rfl) (Nat.le_of_ble_eq_true rfl) rfl rfl (Nat.le_of_ble_eq_true rfl) ?_
  refine c_645 d h1 hx haq hq _ ?_
  exact gG.done rfl (fun _ => rfl) (k)
section TELL6
variable {V : Prop} {A : Bk} {N n : Nat} {h : im_H} {s : Nat → Int32} {t : Nat → Nat → Int32} {m f : Nat} {g : Nat → Int32} {w : Int32} {Q : Option Value → im_H → Prop}
/-- tellShown, where the text isn't too long -/
theorem c_12 (d : Nat) {a q : Nat} (hD : DI s t) (hR : DR V A N n h s t) (hl : lastF s t = some (m, f)) (hL : LN h g w (nI a) (nI q)) (hT : ∀ j, ps (t 1 j) 126) (ha : 1 ≤ a) (haq : a < q) (hq : q ≤ 3000) (hqn : q ≤ n) (h17 : s 17 = nI a) (h18 : s 18 = nI q) (hfit : s 18 - s 17 ≤ t 8 (fI m f 3)) (k : ∀ h', fD N 1 (q - a) h h' → DR V A N n h' s (mReadTxt s t m f).2 → Q (some (.int (mReadTxt s t m f).1)) h') : gC (gD (d + 4)) 12 [.ref 5, .ref 1] h Q := by
  obtain ⟨m48, f30, hM, hfl, hf1, hN, hNm, hmp, ⟨sh, hx, hsh⟩, ⟨o1, o2, h5, edc, rv⟩, htx⟩ := hR.lat hD hl
  have hF := hM.2.2.2.2 f hfl
  have hne5 : A.2.2 m f ≠ 5 := by have := hR.1; omega
  have h25 := hR.1
  have h1 := hR.2.2.2.1
  have hE := hD.1
  have hE5 := hE.2
  obtain ⟨⟨v1, v2, v4, h6⟩, h7⟩ := hL
  unfold mReadTxt at k
  rw [if_pos hfit] at k
  obtain ⟨a13, b13, e13⟩ := ps_ex (hF.1 13 (by decide))
  have b13 : a13 ≤ 80 := b13
  have z13 : t 8 (fI m f 13) ≤ 0 ↔ gF t m f 13 = 0 := by
    show t 8 (fI m f 13) ≤ 0 ↔ t 8 (fI m f 13) = 0
    rw [e13]
    constructor
    · intro z
      have := (nI_leI (b := 0) (by omega) (by decide)).mp z
      rw [show a13 = 0 by omega]
      rfl
    · intro z
      rw [z]
      decide
  refine gC.of (q := me_12.2) rfl (Nat.le_of_ble_eq_true rfl) rfl ?_
  refine gG.step (cd := cd_12) rfl (fun _ => rfl) ?_
  refine gG.get rfl (h5) rfl ?_
  refine gG.get rfl (hx) rfl ?_
  rcases hsh with ⟨y1, rfl⟩ | ⟨y1, b, yy, rfl, y3, y4, y5⟩
  case inr =>
    rw [if_neg (fun z => y1 (z13.mp z))] at k
    refine gG.step rfl (fun _ => rfl) ?_
    refine gG.step rfl (fun _ => rfl) ?_
    exact gG.done rfl (fun _ => rfl) (k h fD.rf hR)
  case inl =>
  rw [if_pos (z13.mpr y1)] at k
  refine gG.jmp (tgt := 12) rfl (fun _ => rfl) rfl ?_
  refine gG.step rfl (fun _ => rfl) ?_
  refine gG.get rfl (h5) rfl ?_
  iterate 2 refine gG.step rfl (fun _ => rfl) ?_
  refine gG.get rfl (h5) rfl ?_
  refine gG.get rfl (h6) rfl ?_
  refine gG.step rfl (fun _ => rfl) ?_
  refine gG.get rfl (h5) rfl ?_
  refine gG.get rfl (h6) rfl ?_
  refine gG.inv rfl (fun _ => rfl) (Nat.le_of_ble_eq_true rfl) rfl rfl (Nat.le_of_ble_eq_true rfl) ?_
  refine c_644 d h1 hT ha (by omega) hq _ ?_
  have hlen : A.2.2 m f < h.length := (List.getElem?_eq_some_iff.mp hx).1
  generalize hc : (.inl (1, q - a, .inl (va_cpy (t 1) (fun _ => 0) a 0 (q - a))) : im_C) = c
  have hx' : (h ++ [c])[A.2.2 m f]? = some (.inr (3, cF (gF t m f) (s 27) (s 19) .null (-1))) := by
    rw [List.getElem?_append_left hlen]
    exact hx
  show gG _ _ _ _ 34 _ [Value.ref h.length, Value.ref (A.2.2 m f)] (h ++ [c]) Q
  refine gG.put (k := 15) rfl hx' (Nat.le_of_ble_eq_true rfl) rfl rfl ?_
  refine gG.step rfl (fun _ => rfl) ?_
  have es : s 18 - s 17 = nI (q - a) := by rw [h17, h18, pk_sub (by omega)]
  have ea : 3000 * s 10 + s 17 = nI (3000 * nv (s 10) + a) := by rw [h17, ← nI_add, ← pk_mul, ← hE.1]; rfl
  rw [es, ea] at k
  have eg : gF (mTl (mTl t m f 12 (nI (3000 * nv (s 10) + a))) m f 13 (nI (q - a))) m f = upd (upd (gF t m f) 12 (nI (3000 * nv (s 10) + a))) 13 (nI (q - a)) := by
    funext w'
    show mTl (mTl t m f 12 (nI (3000 * nv (s 10) + a))) m f 13 (nI (q - a)) 8 (fI m f w') = _
    rw [mTl_8]
    congr 1
    funext w2
    exact mTl_8
  have e12 : gF (mTl (mTl t m f 12 (nI (3000 * nv (s 10) + a))) m f 13 (nI (q - a))) m f 12 = nI (3000 * nv (s 10) + a) := by rw [eg]; rfl
  have e13' : gF (mTl (mTl t m f 12 (nI (3000 * nv (s 10) + a))) m f 13 (nI (q - a))) m f 13 = nI (q - a) := by rw [eg]; rfl
  refine gG.done rfl (fun _ => rfl) (k _ ?_ (DR_fld (t' := mTl (mTl t m f 12 (nI (3000 * nv (s 10) + a))) m f 13 (nI (q - a))) (o1 := o1) (o2 := o2) (sh := .ref h.length) hD hR hl rfl (fun j hj => ?_) (fun m' f' w' a b c => ?_) ?_ (fun k hk _ x hx' => ?_) ?_ ?_ rv ?_ ?_))
  · refine ⟨fun k hk hk2 => ?_, ?_, ?_, ?_⟩
    · have : A.2.2 m f < h.length := hlen
      rw [set_ne (by omega), List.getElem?_append_left (by omega)]
    · rw [List.length_set, List.length_append]; omega
    · rw [List.length_set, List.length_append]; exact Nat.le_refl _
    · rw [im_sz_set (y := .inr (3, (cF (gF t m f) (s 27) (s 19) .null (-1)).set 15 (.ref h.length))) hx' rfl, im_sz_push, ← hc]
      exact Nat.le_refl _
  · rw [mTl_ne hj, mTl_ne hj]
  · rw [mTl_8ne f30 (by decide) a b c, mTl_8ne f30 (by decide) a b c]
  · show gF (mTl (mTl t m f 12 (nI (3000 * nv (s 10) + a))) m f 13 (nI (q - a))) m f 9 = gF t m f 9
    rw [eg]; rfl
  · have hkl : k < h.length := (List.getElem?_eq_some_iff.mp hx').1
    rw [set_ne hk, List.getElem?_append_left hkl]
    exact hx'
  · rw [set_at hx', eg]
    rfl
  · have h5l : 5 < h.length := (List.getElem?_eq_some_iff.mp h5).1
    rw [set_ne (Ne.symm hne5), List.getElem?_append_left h5l, edc]
    exact h5
  · right
    rw [e12, e13']
    refine ⟨nI_ne0 (by omega) (by omega), h.length, va_cpy (t 1) (fun _ => 0) a 0 (q - a), rfl, by omega, ?_, fun j hj => ?_⟩
    · rw [set_ne (by omega), nv_nI (by omega), ← hc]
      exact ap_at
    · rw [nv_nI (by omega)] at hj
      rw [nv_nI (by omega), pk_cpy_in (Nat.zero_le _) (by omega)]
      unfold dTx
      congr 1
      omega
  · have a12 : mTl (mTl t m f 12 (nI (3000 * nv (s 10) + a))) m f 13 (nI (q - a)) 8 (fI m f 12) = nI (3000 * nv (s 10) + a) := e12
    have a13 : mTl (mTl t m f 12 (nI (3000 * nv (s 10) + a))) m f 13 (nI (q - a)) 8 (fI m f 13) = nI (q - a) := e13'
    rw [a12, a13, nv_nI (by omega), nv_nI (by omega)]
    omega
end TELL6
