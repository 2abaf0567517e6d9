section CINT3
variable {A : Bk} {h0 h : im_H} {t : Nat → Nat → Int32} {m : Nat} {Q : Option Value → im_H → Prop}
/-- endTime -/
theorem c_262 (d : Nat) {ca : Int32} {z : iZ} (hI : IC h0 h (cI (.ref (A.2.1 m)) ca z)) (hm : CMp A h0 t m (lbS t m) (plS t m) (PT m) (t 2)) (hM : MapI t m) (hf : z.2.1 < nv (t 7 m)) (htm : z.2.2.1 ≤ 100) (hsd : z.2.2.2.2.1 ≤ 65535) (k : ∀ h', IC h0 h' (cI (.ref (A.2.1 m)) ca (iEnd t m z)) → Q none h') : gC (gD (d + 3)) 262 [.ref 10, .ref (A.2.2 m z.2.1)] h Q := by
  obtain ⟨go, f, ti, co, sd, dg⟩ := z
  have hI : IC h0 h [.ref (A.2.1 m), .int ca, .int go, .int (nI f), .int (nI ti), .int (nI co), .int (nI sd), .int (bI dg)] := hI
  dsimp only at hsd hf htm ⊢
  have ek : iEnd t m (go, f, ti, co, sd, dg) = ((if iOk t m f sd dg = true then go + 1 else go), (if ti + 1 = nv (t 8 (fI m f 5)) then cFn t m (f + 1) else f), (if ti + 1 = nv (t 8 (fI m f 5)) then 0 else ti + 1), 0, 0, true) := rfl
  rw [ek] at k
  have hF := hM.2.2.2.2 f hf
  have h7 := hM.2.2.2.1
  obtain ⟨T, hT, eT⟩ := ps_ex (hF.1 5 (by decide))
  have hT : T ≤ 20 := hT
  have eT' : gF t m f 5 = nI T := eT
  rw [eT, nv_nI (by omega)] at k
  obtain ⟨oc, pi, sh, -, hx, -⟩ := (CMp_fr hI.far hm).fld hf
  refine gC.of (q := me_262.2) rfl (Nat.le_of_ble_eq_true rfl) rfl ?_
  iterate 2 refine gG.step (cd := cd_262) rfl (fun _ => rfl) ?_
  refine gG.vir rfl (hI.2) rfl rfl (Nat.le_of_ble_eq_true rfl) rfl rfl (Nat.le_of_ble_eq_true rfl) ?_
  refine c_263 d (z := (go, f, ti, co, sd, dg)) hI hx hF hsd ?_
  show gG _ _ _ _ 5 _ [Value.int (bI (iOk t m f sd dg))] h Q
  have at18 : ∀ (h : im_H) (g2 : Int32), (if iOk t m f sd dg = true then go + 1 else go) = g2 → IC h0 h [.ref (A.2.1 m), .int ca, .int g2, .int (nI f), .int (nI ti), .int (nI co), .int (nI sd), .int (bI dg)] → gG tb_T (gD (d + 2)) none cd_262 18 [some (.ref 10), some (.ref (A.2.2 m f))] [] h Q := by
    intro h g2 hg hI
    rw [hg] at k
    refine gG.step rfl (fun _ => rfl) ?_
    refine gG.vir rfl (hI.2) rfl rfl (Nat.le_of_ble_eq_true rfl) rfl rfl (Nat.le_of_ble_eq_true rfl) ?_
    refine c_259 (d + 1) hI (fun h hI => ?_)
    iterate 2 refine gG.step rfl (fun _ => rfl) ?_
    refine gG.get rfl (hI.2) rfl ?_
    iterate 2 refine gG.step rfl (fun _ => rfl) ?_
    refine iPut hI rfl (Nat.le_of_ble_eq_true rfl) rfl rfl rfl (fun h hI => ?_)
    refine gG.step rfl (fun _ => rfl) ?_
    refine gG.get rfl (hI.2) rfl ?_
    obtain ⟨oc, pi, sh, -, hx, -⟩ := (CMp_fr hI.far hm).fld hf
    refine gG.step rfl (fun _ => rfl) ?_
    refine gG.get rfl (hx) rfl ?_
    rw [eT']
    show gG _ _ _ _ 40 _ [Value.int (nI T), Value.int (nI ti + 1)] h Q
    have hI : IC h0 h [.ref (A.2.1 m), .int ca, .int g2, .int (nI f), .int (nI ti + 1), .int 0, .int 0, .int 1] := hI
    rw [nI_1] at hI ⊢
    by_cases hz : ti + 1 = T
    · rw [if_pos hz, if_pos hz] at k
      refine gG.icmp (tgt := 65) rfl rfl (fun c => absurd (by rw [hz]) (c_ne.mp c)) (fun _ => ?_)
      iterate 2 refine gG.step rfl (fun _ => rfl) ?_
      refine iPut hI rfl (Nat.le_of_ble_eq_true rfl) rfl rfl rfl (fun h hI => ?_)
      iterate 2 refine gG.step rfl (fun _ => rfl) ?_
      refine gG.get rfl (hI.2) rfl ?_
      refine gG.step rfl (fun _ => rfl) ?_
      refine gG.get rfl (hI.2) rfl ?_
      iterate 2 refine gG.step rfl (fun _ => rfl) ?_
      have hm' := CMp_fr hI.far hm
      show gG _ _ _ _ 59 _ [Value.int (nI f + 1), Value.ref (A.2.1 m), Value.ref 10] h Q
      rw [nI_1]
      refine gG.vir rfl (hm'.2.1) rfl rfl (Nat.le_of_ble_eq_true rfl) rfl rfl (Nat.le_of_ble_eq_true rfl) ?_
      refine c_386 d hm' h7 (i := f + 1) (by omega) ?_
      show gG _ _ _ _ 62 _ [Value.int (nI (cFn t m (f + 1))), Value.ref 10] h Q
      refine iPut hI rfl (Nat.le_of_ble_eq_true rfl) rfl rfl rfl (fun h hI => ?_)
      exact gG.done rfl (fun _ => rfl) (k h hI)
    · rw [if_neg hz, if_neg hz] at k
      refine gG.icmp (tgt := 65) rfl rfl (fun _ => ?_) (fun c => absurd (c_ne.mpr (fun y => hz ((nI_eq (by omega) (by omega)).mp y))) c)
      exact gG.done rfl (fun _ => rfl) (k h hI)
  cases hok : iOk t m f sd dg with
  | false =>
    refine gG.ifc (tgt := 18) rfl rfl (fun _ => ?_) (fun c => absurd (by decide) c)
    exact at18 h go (by rw [hok]; rfl) hI
  | true =>
    refine gG.ifc (tgt := 18) rfl rfl (fun c => absurd c (by decide)) (fun _ => ?_)
    iterate 2 refine gG.step rfl (fun _ => rfl) ?_
    refine gG.get rfl (hI.2) rfl ?_
    iterate 2 refine gG.step rfl (fun _ => rfl) ?_
    refine iPut hI rfl (Nat.le_of_ble_eq_true rfl) rfl rfl rfl (fun h hI => ?_)
    exact at18 h (go + 1) (by rw [hok]; rfl) hI
/-- a byte and its digit -/
theorem byt {b : Int32} (hb : b.toInt8.toInt32 = b) : ∃ x : Nat, x ≤ 255 ∧ b &&& 255 = nI x ∧ ((48 ≤ b ∧ b ≤ 57) ↔ (48 ≤ x ∧ x ≤ 57)) := by
  have key : ∀ y : BitVec 8, ∃ x : Nat, x ≤ 255 ∧ (Int8.ofBitVec y).toInt32 &&& 255 = nI x ∧ ((48 ≤ (Int8.ofBitVec y).toInt32 ∧ (Int8.ofBitVec y).toInt32 ≤ 57) ↔ (48 ≤ x ∧ x ≤ 57)) := by
    intro y
    have h : ∀ y : BitVec 8, (Int8.ofBitVec y).toInt32 &&& 255 = nI y.toNat ∧ ((48 ≤ (Int8.ofBitVec y).toInt32 ∧ (Int8.ofBitVec y).toInt32 ≤ 57) ↔ (48 ≤ y.toNat ∧ y.toNat ≤ 57)) := by decide
    exact ⟨y.toNat, by have := y.isLt; omega, (h y).1, (h y).2⟩
  rw [← hb]
  exact key b.toInt8.toBitVec
/-- nextOfField -/
theorem c_260 (d : Nat) {ca : Int32} {z : iZ} (hI : IC h0 h (cI (.ref (A.2.1 m)) ca z)) (hm : CMp A h0 t m (lbS t m) (plS t m) (PT m) (t 2)) (hM : MapI t m) (hf : z.2.1 < nv (t 7 m)) (htm : z.2.2.1 ≤ 100) (hco : z.2.2.2.1 ≤ 99) (hsd : z.2.2.2.2.1 ≤ (if z.2.2.2.1 < 2 then 255 else 65535)) {b : Int32} (hb : b.toInt8.toInt32 = b) (k : ∀ h', IC h0 h' (cI (.ref (A.2.1 m)) ca (iNx t m (nv (b &&& 255)) z)) → Q none h') : gC (gD (d + 4)) 260 [.ref 10, .ref (A.2.2 m z.2.1), .int b] h Q := by
  obtain ⟨go, f, ti, co, sd, dg⟩ := z
  have hI : IC h0 h [.ref (A.2.1 m), .int ca, .int go, .int (nI f), .int (nI ti), .int (nI co), .int (nI sd), .int (bI dg)] := hI
  dsimp only at hsd hf htm hco ⊢
  obtain ⟨x, hx255, ex, hdg⟩ := byt hb
  rw [ex, nv_nI (by omega)] at k
  have hF := hM.2.2.2.2 f hf
  obtain ⟨l, hl, el⟩ := ps_ex (hF.1 3 (by decide))
  have hl : l ≤ 80 := hl
  have ek : iNx t m x (go, f, ti, co, sd, dg) = (if co + 1 = 3 + nv (t 8 (fI m f 3)) then iEnd t m (go, f, ti, co + 1, (if co < 2 then sd * 256 + x else sd), (if co < 2 then dg else if 3 ≤ co ∧ co - 3 < sd ∧ ¬ (48 ≤ x ∧ x ≤ 57) then false else dg)) else (go, f, ti, co + 1, (if co < 2 then sd * 256 + x else sd), (if co < 2 then dg else if 3 ≤ co ∧ co - 3 < sd ∧ ¬ (48 ≤ x ∧ x ≤ 57) then false else dg))) := rfl
  rw [ek, el, nv_nI (by omega)] at k
  have el' : gF t m f 3 = nI l := el
  refine gC.of (q := me_260.2) rfl (Nat.le_of_ble_eq_true rfl) rfl ?_
  refine gG.step (cd := cd_260) rfl (fun _ => rfl) ?_
  refine gG.get rfl (hI.2) rfl ?_
  -- behind the byte
  have at54 : ∀ (h : im_H) (sd2 : Nat) (dg2 : Bool), (if co < 2 then sd * 256 + x else sd) = sd2 → (if co < 2 then dg else if 3 ≤ co ∧ co - 3 < sd ∧ ¬ (48 ≤ x ∧ x ≤ 57) then false else dg) = dg2 → sd2 ≤ 65535 → IC h0 h [.ref (A.2.1 m), .int ca, .int go, .int (nI f), .int (nI ti), .int (nI co), .int (nI sd2), .int (bI dg2)] → gG tb_T (gD (d + 3)) none cd_260 54 [some (.ref 10), some (.ref (A.2.2 m f)), some (.int b)] [] h Q := by
    intro h sd2 dg2 h1 h2 hs2 hI
    rw [h1, h2] at k
    iterate 2 refine gG.step rfl (fun _ => rfl) ?_
    refine gG.get rfl (hI.2) rfl ?_
    iterate 2 refine gG.step rfl (fun _ => rfl) ?_
    refine iPut hI rfl (Nat.le_of_ble_eq_true rfl) rfl rfl rfl (fun h hI => ?_)
    have hI : IC h0 h [.ref (A.2.1 m), .int ca, .int go, .int (nI f), .int (nI ti), .int (nI co + 1), .int (nI sd2), .int (bI dg2)] := hI
    rw [nI_1] at hI
    obtain ⟨oc, pi, sh, -, hx, -⟩ := (CMp_fr hI.far hm).fld hf
    refine gG.step rfl (fun _ => rfl) ?_
    refine gG.get rfl (hI.2) rfl ?_
    refine gG.step rfl (fun _ => rfl) ?_
    refine gG.vir rfl (hx) rfl rfl (Nat.le_of_ble_eq_true rfl) rfl rfl (Nat.le_of_ble_eq_true rfl) ?_
    refine c_196 (d + 2) hx ?_
    rw [el']
    have e3 : (3 : Int32) + nI l = nI (3 + l) := nI_add 3 l
    rw [e3]
    show gG _ _ _ _ 72 _ [Value.int (nI (3 + l)), Value.int (nI (co + 1))] h Q
    by_cases hz : co + 1 = 3 + l
    · rw [if_pos hz] at k
      refine gG.icmp (tgt := 80) rfl rfl (fun c => absurd (by rw [hz]) (c_ne.mp c)) (fun _ => ?_)
      iterate 2 refine gG.step rfl (fun _ => rfl) ?_
      refine gG.vir rfl (hI.2) rfl rfl (Nat.le_of_ble_eq_true rfl) rfl rfl (Nat.le_of_ble_eq_true rfl) ?_
      refine c_262 d (z := (go, f, ti, co + 1, sd2, dg2)) hI hm hM hf htm hs2 (fun h hI => ?_)
      exact gG.done rfl (fun _ => rfl) (k h hI)
    · rw [if_neg hz] at k
      refine gG.icmp (tgt := 80) rfl rfl (fun _ => ?_) (fun c => absurd (c_ne.mpr (fun y => hz ((nI_eq (by omega) (by omega)).mp y))) c)
      exact gG.done rfl (fun _ => rfl) (k h hI)
  refine gG.step rfl (fun _ => rfl) ?_
  by_cases hc2 : co < 2
  · rw [if_pos hc2] at hsd
    refine gG.icmp (tgt := 29) rfl rfl (fun c => absurd ((c_ge (b := 2) (by omega) (by decide)).mp c) (by omega)) (fun _ => ?_)
    iterate 2 refine gG.step rfl (fun _ => rfl) ?_
    refine gG.get rfl (hI.2) rfl ?_
    iterate 2 refine gG.step rfl (fun _ => rfl) ?_
    iterate 2 refine gG.step rfl (fun _ => rfl) ?_
    iterate 2 refine gG.step rfl (fun _ => rfl) ?_
    show gG _ _ _ _ 23 _ [Value.int (nI sd * 256 + (b &&& 255)), Value.ref 10] h Q
    rw [ex, show (256 : Int32) = nI 256 from rfl, pk_mul, nI_add]
    refine iPut hI rfl (Nat.le_of_ble_eq_true rfl) rfl rfl rfl (fun h hI => ?_)
    refine gG.goto (tgt := 54) rfl rfl ?_
    exact at54 h (sd * 256 + x) dg (by rw [if_pos hc2]) (by rw [if_pos hc2]) (by omega) hI
  · rw [if_neg hc2] at hsd
    refine gG.icmp (tgt := 29) rfl rfl (fun _ => ?_) (fun c => absurd ((c_ge (b := 2) (by omega) (by decide)).mpr (by omega)) c)
    iterate 2 refine gG.step rfl (fun _ => rfl) ?_
    refine gG.get rfl (hI.2) rfl ?_
    iterate 2 refine gG.step rfl (fun _ => rfl) ?_
    refine gG.vir rfl (hI.2) rfl rfl (Nat.le_of_ble_eq_true rfl) rfl rfl (Nat.le_of_ble_eq_true rfl) ?_
    refine c_261 (d + 2) (z := (go, f, ti, co, sd, dg)) hI (by omega) hsd ?_
    show gG _ _ _ _ 39 _ [Value.int (bI (decide (3 ≤ co ∧ co - 3 < sd)))] h Q
    by_cases hd : 3 ≤ co ∧ co - 3 < sd
    · rw [decide_eq_true hd]
      refine gG.ifc (tgt := 54) rfl rfl (fun c => absurd c (by decide)) (fun _ => ?_)
      refine gG.step rfl (fun _ => rfl) ?_
      refine gG.inv rfl (fun _ => rfl) (Nat.le_of_ble_eq_true rfl) rfl rfl (Nat.le_of_ble_eq_true rfl) ?_
      refine c_467 (d + 1) b h _ ?_
      show gG _ _ _ _ 46 _ [Value.int (bI (decide (48 ≤ b ∧ b ≤ 57)))] h Q
      by_cases hdb : 48 ≤ b ∧ b ≤ 57
      · rw [decide_eq_true hdb]
        refine gG.ifc (tgt := 54) rfl rfl (fun _ => ?_) (fun c => absurd (by decide) c)
        exact at54 h sd dg (by rw [if_neg hc2]) (by rw [if_neg hc2, if_neg (fun z => z.2.2 (hdg.mp hdb))]) hsd hI
      · rw [decide_eq_false hdb]
        refine gG.ifc (tgt := 54) rfl rfl (fun c => absurd c (by decide)) (fun _ => ?_)
        iterate 2 refine gG.step rfl (fun _ => rfl) ?_
        refine iPut hI rfl (Nat.le_of_ble_eq_true rfl) rfl rfl rfl (fun h hI => ?_)
        exact at54 h sd false (by rw [if_neg hc2]) (by rw [if_neg hc2, if_pos ⟨hd.1, hd.2, fun z => hdb (hdg.mpr z)⟩]) hsd hI
    · rw [decide_eq_false hd]
      refine gG.ifc (tgt := 54) rfl rfl (fun _ => ?_) (fun c => absurd (by decide) c)
      exact at54 h sd dg (by rw [if_neg hc2]) (by rw [if_neg hc2, if_neg (fun z => hd ⟨z.1, z.2.1⟩)]) hsd hI
end CINT3
/-! what came is within its bounds -/
def IB (t : Nat → Nat → Int32) (m : Nat) (z : iZ) : Prop := z.2.1 ≤ nv (t 7 m) ∧ z.2.2.1 ≤ 20 ∧ z.2.2.2.1 ≤ 83 ∧ (z.2.1 < nv (t 7 m) → z.2.2.1 < nv (t 8 (fI m z.2.1 5)) ∧ z.2.2.2.1 < 3 + nv (t 8 (fI m z.2.1 3))) ∧ z.2.2.2.2.1 ≤ (if z.2.2.2.1 = 0 then 0 else if z.2.2.2.1 = 1 then 255 else 65535)
theorem cFn_le (t : Nat → Nat → Int32) (m i : Nat) (hi : i ≤ nv (t 7 m)) : cFn t m i ≤ nv (t 7 m) := by
  unfold cFn
  split
  · exact Nat.le_refl _
  · rename_i f hf
    have := (sr_some hf).2.1
    omega
theorem IB_nx {t : Nat → Nat → Int32} {m x : Nat} {z : iZ} (hM : MapI t m) (hx : x ≤ 255) (hf : z.2.1 < nv (t 7 m)) (h : IB t m z) : IB t m (iNx t m x z) := by
  obtain ⟨go, f, ti, co, sd, dg⟩ := z
  obtain ⟨h1, h2, h3, h4, h5⟩ := h
  dsimp only at h1 h2 h3 h4 h5 hf
  have hF := hM.2.2.2.2 f hf
  have h5b : nv (t 8 (fI m f 5)) ≤ 20 := (hF.1 5 (by decide)).2
  have h3b : nv (t 8 (fI m f 3)) ≤ 80 := (hF.1 3 (by decide)).2
  obtain ⟨h41, h42⟩ := h4 hf
  have times1 : ∀ g, g < nv (t 7 m) → 0 < nv (t 8 (fI m g 5)) := fun g hg => (hM.2.2.2.2 g hg).2.2.1
  unfold iNx
  dsimp only
  split
  · rename_i hz
    unfold iEnd IB
    dsimp only
    have hcf := cFn_le t m (f + 1) (by omega)
    refine ⟨?_, ?_, by omega, fun hlt => ⟨?_, by omega⟩, Nat.zero_le _⟩
    · split <;> omega
    · split <;> omega
    · by_cases ht : ti + 1 = nv (t 8 (fI m f 5))
      · rw [if_pos ht] at hlt ⊢
        rw [if_pos ht]
        exact times1 _ hlt
      · rw [if_neg ht, if_neg ht]
        omega
  · rename_i hz
    unfold IB
    dsimp only
    refine ⟨h1, h2, by omega, fun _ => ⟨h41, by omega⟩, ?_⟩
    by_cases c0 : co = 0
    · subst c0
      have h5 : sd ≤ 0 := h5
      show sd * 256 + x ≤ 255
      omega
    · by_cases c1 : co = 1
      · subst c1
        have h5 : sd ≤ 255 := h5
        show sd * 256 + x ≤ 65535
        omega
      · rw [if_neg c0, if_neg c1] at h5
        rw [if_neg (show ¬ co < 2 by omega), if_neg (show ¬ co + 1 = 0 by omega), if_neg (show ¬ co + 1 = 1 by omega)]
        exact h5
theorem IB_iS {t : Nat → Nat → Int32} {m : Nat} (hM : MapI t m) : ∀ c, (∀ j, j < c → ps (t 11 j) 255) → IB t m (iS t m c)
  | 0, _ => by
    rw [iS]
    refine ⟨cFn_le t m 0 (Nat.zero_le _), Nat.zero_le _, Nat.zero_le _, fun hlt => ⟨?_, ?_⟩, Nat.zero_le _⟩
    · exact (hM.2.2.2.2 _ hlt).2.2.1
    · show 0 < _
      omega
  | c + 1, h => by
    rw [iS]
    have ih := IB_iS hM c (fun j hj => h j (by omega))
    split
    · rename_i hc
      exact IB_nx hM (h c (by omega)).2 hc.2 ih
    · exact ih
