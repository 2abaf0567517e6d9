def bI (b : Bool) : Int32 := if b = true then 1 else 0
theorem m_514 (d : Nat) (v lo hi : Int32) (h : im_H) (Q : Option Value → im_H → Prop) (k : Q (some (.int (bI (decide (lo ≤ v ∧ v ≤ hi))))) h) : gC (gD (d + 1)) 514 [.int v, .int lo, .int hi] h Q := by
  refine gC.of (q := me_514.2) rfl (Nat.le_of_ble_eq_true rfl) rfl ?_
  iterate 2 refine gG.step (cd := cd_514) rfl (fun _ => rfl) ?_
  refine gG.icmp (tgt := 14) rfl rfl (fun c => ?_) (fun c => ?_)
  · refine gG.step rfl (fun _ => rfl) ?_
    refine gG.done rfl (fun _ => rfl) ?_
    have hc : v < lo := of_decide_eq_true c
    rw [decide_eq_false (fun z => absurd z.1 (Int32.not_le.mpr hc))] at k
    exact k
  · iterate 2 refine gG.step rfl (fun _ => rfl) ?_
    refine gG.icmp (tgt := 14) rfl rfl (fun c2 => ?_) (fun c2 => ?_)
    · refine gG.step rfl (fun _ => rfl) ?_
      refine gG.done rfl (fun _ => rfl) ?_
      have hc : hi < v := of_decide_eq_true c2
      rw [decide_eq_false (fun z => absurd z.2 (Int32.not_le.mpr hc))] at k
      exact k
    · refine gG.step rfl (fun _ => rfl) ?_
      refine gG.goto (tgt := 15) rfl rfl ?_
      refine gG.done rfl (fun _ => rfl) ?_
      have h1 : lo ≤ v := Int32.not_lt.mp (fun z => c (decide_eq_true z))
      have h2 : v ≤ hi := Int32.not_lt.mp (fun z => c2 (decide_eq_true z))
      rw [decide_eq_true ⟨h1, h2⟩] at k
      exact k
theorem m_522 (d : Nat) (x l n : Int32) (h : im_H) (Q : Option Value → im_H → Prop) (k : Q (some (.int (x + (l + 1) * n))) h) : gC (gD (d + 1)) 522 [.int x, .int l, .int n] h Q := by
  refine gC.of (q := me_522.2) rfl (Nat.le_of_ble_eq_true rfl) rfl ?_
  iterate 7 refine gG.step (cd := cd_522) rfl (fun _ => rfl) ?_
  exact gG.done rfl (fun _ => rfl) k
def fI (m f w : Nat) : Nat := 14 * (30 * m + f) + w
theorem fI_lt {m f w : Nat} (hm : m < 48) (hf : f < 30) (hw : w < 14) : fI m f w < 20160 := by
  unfold fI; omega
theorem m_519 (d : Nat) {b : Nat} {h0 h : im_H} {s : Nat → Int32} {t : Nat → Nat → Int32} (hM : MM b h0 h s t) {m f w : Nat} (hm : m < 48) (hf : f < 30) (hw : w < 14) (Q : Option Value → im_H → Prop) (k : Q (some (.int (t 8 (fI m f w)))) h) : gC (gD (d + 1)) 519 [.ref b, .int (nI m), .int (nI f), .int (nI w)] h Q := by
  refine gC.of (q := me_519.2) rfl (Nat.le_of_ble_eq_true rfl) rfl ?_
  refine gG.step (cd := cd_519) rfl (fun _ => rfl) ?_
  refine mGet hM rfl rfl ?_
  iterate 9 refine gG.step rfl (fun _ => rfl) ?_
  refine mAld (j := 8) (n := fI m f w) hM rfl (by decide) (by decide) ?_ (fI_lt hm hf hw) ?_
  · show (14 : Int32) * (30 * nI m + nI f) + nI w = nI (fI m f w)
    rw [show (14 : Int32) = nI 14 from rfl, show (30 : Int32) = nI 30 from rfl, pk_mul, nI_add, pk_mul, nI_add]
    rfl
  · exact gG.done rfl (fun _ => rfl) k
theorem m_520 (d : Nat) {b : Nat} {h0 h : im_H} {s : Nat → Int32} {t : Nat → Nat → Int32} (hM : MM b h0 h s t) {m f w : Nat} {v : Int32} (hm : m < 48) (hf : f < 30) (hw : w < 14) (Q : Option Value → im_H → Prop) (k : ∀ h', MM b h0 h' s (va_up t 8 (upd (t 8) (fI m f w) v)) → Q none h') : gC (gD (d + 1)) 520 [.ref b, .int (nI m), .int (nI f), .int (nI w), .int v] h Q := by
  refine gC.of (q := me_520.2) rfl (Nat.le_of_ble_eq_true rfl) rfl ?_
  refine gG.step (cd := cd_520) rfl (fun _ => rfl) ?_
  refine mGet hM rfl rfl ?_
  iterate 10 refine gG.step rfl (fun _ => rfl) ?_
  refine mAst (j := 8) (n := fI m f w) hM rfl (by decide) (by decide) ?_ (fI_lt hm hf hw) (fun h' hM' => ?_)
  · show (14 : Int32) * (30 * nI m + nI f) + nI w = nI (fI m f w)
    rw [show (14 : Int32) = nI 14 from rfl, show (30 : Int32) = nI 30 from rfl, pk_mul, nI_add, pk_mul, nI_add]
    rfl
  · exact gG.done rfl (fun _ => rfl) (k h' hM')
