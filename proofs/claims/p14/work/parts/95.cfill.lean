theorem c_67 (d : Nat) {h0 h : im_H} {t : Nat → Nat → Int32} {m f fo : Nat} {oc pi pl : Int32} {sh : Value} {g : Nat → Int32} {a L dc : Nat} {no : Bool} (hE : EC h0 h (nI L) g) (ho : 25 ≤ fo) (hx : h0[fo]? = some (.inr (3, cF (gF t m f) oc pi sh pl))) (hL : 1 ≤ L) (hL8 : L ≤ 80) (e11 : t 8 (fI m f 11) = bI no) (hat : eAt L (if no = true then L else sN a dc L) (cDn a dc) g) (Q : Option Value → im_H → Prop) (k : ∀ h' g', EC h0 h' (nI L) g' → eAt L (eN a dc L no true) (eD a dc L no true) g' → Q (some (.int (nI (L - eN a dc L no true)))) h') : gC (gD (d + 1)) 67 [.ref 8, .ref fo, .int (nI (L - (if no = true then L else sN a dc L)))] h Q := by
  have en : gF t m f 11 = bI no := e11
  have hx1 : h[fo]? = some (.inr (3, cF (gF t m f) oc pi sh pl)) := by rw [hE.far fo ho]; exact hx
  have hsl := sN_le a dc L
  refine gC.of (q := me_67.2) rfl (Nat.le_of_ble_eq_true rfl) rfl ?_
  refine gG.step (cd := cd_67) rfl (fun _ => rfl) ?_
  refine gG.get rfl (hx1) rfl ?_
  rw [en]
  cases no with
  | true =>
    have eN1 : eN a dc L true true = L := rfl
    have eD1 : ∀ i, eD a dc L true true i = if cDn a dc (L - 1) = 48 ∧ i = L - 1 then 45 else cDn a dc i := by
      intro i
      unfold eD
      rw [if_pos rfl]
      by_cases h : cDn a dc (L - 1) = 48 ∧ i = L - 1
      · rw [if_pos h, if_pos ⟨rfl, h⟩]
      · rw [if_neg h, if_neg (fun z => h z.2)]
    rw [eN1, Nat.sub_self] at k
    have hat : eAt L L (cDn a dc) g := hat
    have eL : (if true = true then L else sN a dc L) = L := rfl
    rw [eL, Nat.sub_self]
    refine gG.ifc (tgt := 28) rfl rfl (fun c => absurd c (by decide)) (fun _ => ?_)
    refine gG.step rfl (fun _ => rfl) ?_
    refine gG.get rfl (hE.2.1) rfl ?_
    refine gG.step rfl (fun _ => rfl) ?_
    refine gG.bald (j := 0) rfl hE.2.2 rfl (by decide) (by decide) ?_
    refine gG.step rfl (fun _ => rfl) ?_
    have g0 : g 0 = cDn a dc (L - 1) := by
      have := hat.1 (L - 1) (by omega)
      rwa [show L - 1 - (L - 1) = 0 by omega] at this
    rw [g0]
    by_cases hz : cDn a dc (L - 1) = 48
    · refine gG.icmp (tgt := 26) rfl rfl (fun c => absurd hz (c_ne.mp c)) (fun _ => ?_)
      refine gG.step rfl (fun _ => rfl) ?_
      refine gG.get rfl (hE.2.1) rfl ?_
      iterate 2 refine gG.step rfl (fun _ => rfl) ?_
      refine eAst (j := 0) (y := 45) hE rfl rfl (by decide) rfl (fun h hE => ?_)
      refine gG.step rfl (fun _ => rfl) ?_
      refine gG.done rfl (fun _ => rfl) (k h _ hE ⟨fun i hi => ?_, fun q hq hq2 => ?_⟩)
      · rw [eD1]
        by_cases hiL : i = L - 1
        · rw [hiL, show L - 1 - (L - 1) = 0 by omega, pk_us, if_pos ⟨hz, rfl⟩]
        · rw [pk_un (by omega), if_neg (fun z => hiL z.2)]
          exact hat.1 i hi
      · rw [pk_un (by omega)]
        exact hat.2 q hq hq2
    · refine gG.icmp (tgt := 26) rfl rfl (fun _ => ?_) (fun c => absurd (c_ne.mpr hz) c)
      refine gG.step rfl (fun _ => rfl) ?_
      refine gG.done rfl (fun _ => rfl) (k h _ hE ⟨fun i hi => ?_, hat.2⟩)
      rw [eD1, if_neg (fun z => hz z.1)]
      exact hat.1 i hi
  | false =>
    have eD1 : ∀ i, eD a dc L false true i = if i = sN a dc L then 45 else cDn a dc i := by
      intro i
      unfold eD
      rw [if_neg (by decide)]
      by_cases h : i = sN a dc L
      · rw [if_pos h, if_pos ⟨rfl, h⟩]
      · rw [if_neg h, if_neg (fun z => h z.2)]
    have eN1 : eN a dc L false true = if sN a dc L < L then sN a dc L + 1 else sN a dc L := by
      unfold eN
      rw [if_neg (by decide)]
      by_cases h : sN a dc L < L
      · rw [if_pos h, if_pos ⟨rfl, h⟩]
      · rw [if_neg h, if_neg (fun z => h z.2)]
    have hat : eAt L (sN a dc L) (cDn a dc) g := hat
    have eL : (if false = true then L else sN a dc L) = sN a dc L := rfl
    rw [eL]
    rw [eN1] at k
    refine gG.ifc (tgt := 28) rfl rfl (fun _ => ?_) (fun c => absurd (by decide) c)
    refine gG.step rfl (fun _ => rfl) ?_
    by_cases hz : sN a dc L < L
    · rw [if_pos hz] at k
      refine gG.ifc (tgt := 34) rfl rfl (fun _ => ?_) (fun c => absurd (c_ne.mpr (nI_ne0 (n := L - sN a dc L) (by omega) (by omega))) c)
      refine gG.step rfl (fun _ => rfl) ?_
      refine gG.get rfl (hE.2.1) rfl ?_
      iterate 4 refine gG.step rfl (fun _ => rfl) ?_
      have e1 : nI (L - sN a dc L) - 1 = nI (L - (sN a dc L + 1)) := by
        have : nI (L - sN a dc L) - 1 = nI (L - sN a dc L - 1) := pk_sub (b := 1) (by omega)
        rw [this]
        congr 1
      refine eAst (j := L - (sN a dc L + 1)) (y := 45) hE rfl e1 (by omega) rfl (fun h hE => ?_)
      iterate 3 refine gG.step rfl (fun _ => rfl) ?_
      show gG _ _ _ _ 47 _ [Value.int (nI (L - sN a dc L) - 1)] h Q
      rw [e1]
      refine gG.done rfl (fun _ => rfl) (k h _ hE ⟨fun i hi => ?_, fun q hq hq2 => ?_⟩)
      · rw [eD1]
        by_cases hiL : i = sN a dc L
        · rw [hiL, show L - 1 - sN a dc L = L - (sN a dc L + 1) by omega, pk_us, if_pos rfl]
        · rw [pk_un (by omega), if_neg hiL]
          exact hat.1 i (by omega)
      · rw [pk_un (by omega)]
        exact hat.2 q hq (by omega)
    · rw [if_neg hz] at k
      have e0 : L - sN a dc L = 0 := by omega
      rw [e0] at k ⊢
      refine gG.ifc (tgt := 34) rfl rfl (fun c => absurd c (by decide)) (fun _ => ?_)
      refine gG.step rfl (fun _ => rfl) ?_
      refine gG.done rfl (fun _ => rfl) (k h _ hE ⟨fun i hi => ?_, hat.2⟩)
      rw [eD1, if_neg (by omega)]
      exact hat.1 i hi
theorem fits_ps {x : Int32} (h : ps x 126) : fits .byte (.int x) = true := by
  obtain ⟨a, ha, rfl⟩ := ps_ex h
  have : ∀ a : Fin 127, fits .byte (.int (nI a.val)) = true := by decide
  exact this ⟨a, by omega⟩
theorem c_68 (d : Nat) {h0 h : im_H} {g D : Nat → Int32} {L n : Nat} (hE : EC h0 h (nI L) g) (hL8 : L ≤ 80) (hn : n ≤ L) (hat : eAt L n D g) (hD : ∀ i, ps (D i) 126) (Q : Option Value → im_H → Prop) (k : ∀ h' g', EC h0 h' (nI L) g' → (∀ q, q < L → g' q = if q < n then D (n - 1 - q) else 32) → Q none h') : gC (gD (d + 3)) 68 [.ref 8, .int (nI (L - n))] h Q := by
  have en : nI L - nI (L - n) = nI n := by
    rw [pk_sub (by omega)]
    congr 1
    omega
  refine gC.of (q := me_68.2) rfl (Nat.le_of_ble_eq_true rfl) rfl ?_
  refine gG.step (cd := cd_68) rfl (fun _ => rfl) ?_
  refine gG.get rfl (hE.2.1) rfl ?_
  iterate 2 refine gG.step rfl (fun _ => rfl) ?_
  refine gG.get rfl (hE.2.1) rfl ?_
  iterate 2 refine gG.step rfl (fun _ => rfl) ?_
  refine gG.get rfl (hE.2.1) rfl ?_
  iterate 2 refine gG.step rfl (fun _ => rfl) ?_
  show gG _ _ _ _ 16 _ [Value.int (nI L - nI (L - n)), Value.int 0, Value.ref 9, Value.int (nI (L - n)), Value.ref 9] h Q
  rw [en]
  have hc1 : (nI (L - n)).toNatClampNeg = L - n := nI_clamp (by omega)
  have hc2 : (nI n).toNatClampNeg = n := nI_clamp (by omega)
  have hc3 : (0 : Int32).toNatClampNeg = 0 := rfl
  have hcp : im_ncopy 9 9 (nI (L - n)) 0 (nI n) h = some (none, h.set 9 (.inl (1, 80, .inl (va_cpy g g (L - n) 0 n)))) := by
    unfold im_ncopy
    rw [hE.2.2]
    dsimp only
    rw [if_pos ⟨rfl, rfl⟩, hc1, hc2, hc3, if_neg, if_pos]
    · rw [List.all_eq_true]
      intro i hi
      have hi := List.mem_range.mp hi
      have := hat.1 (n - 1 - i) (by omega)
      rw [show L - 1 - (n - 1 - i) = L - n + i by omega] at this
      rw [this]
      exact fits_ps (hD _)
    · rintro (z | z | z | z | z)
      · exact nI_pos (by omega) z
      · exact absurd z (by decide)
      · exact nI_pos (by omega) z
      · omega
      · omega
  refine gG.inv rfl (fun _ => rfl) (Nat.le_of_ble_eq_true rfl) rfl rfl (Nat.le_of_ble_eq_true rfl) ?_
  refine gC.nat rfl (r := none) (h' := h.set 9 (.inl (1, 80, .inl (va_cpy g g (L - n) 0 n)))) hcp ?_
  have hE := hE.arr (va_cpy g g (L - n) 0 n)
  refine gG.step rfl (fun _ => rfl) ?_
  refine gG.get rfl (hE.2.1) rfl ?_
  refine gG.step rfl (fun _ => rfl) ?_
  refine gG.get rfl (hE.2.1) rfl ?_
  iterate 3 refine gG.step rfl (fun _ => rfl) ?_
  refine gG.get rfl (hE.2.1) rfl ?_
  refine gG.step rfl (fun _ => rfl) ?_
  show gG _ _ _ _ 35 _ [Value.int 32, Value.int (nI L), Value.int (nI L - nI (L - n)), Value.ref 9] _ Q
  rw [en]
  refine gG.inv rfl (fun _ => rfl) (Nat.le_of_ble_eq_true rfl) rfl rfl (Nat.le_of_ble_eq_true rfl) ?_
  refine c_642 d hE (lo := n) (hi := L) hn hL8 (x := 32) (y := 32) rfl _ (fun h hE => ?_)
  refine gG.done rfl (fun _ => rfl) (k h _ hE (fun q hq => ?_))
  by_cases hqn : q < n
  · rw [if_pos hqn, if_neg (by omega), pk_cpy_in (Nat.zero_le _) (by omega)]
    have := hat.1 (n - 1 - q) (by omega)
    rw [show L - 1 - (n - 1 - q) = L - n + (q - 0) by omega] at this
    exact this
  · rw [if_neg hqn, if_pos ⟨by omega, hq⟩]
theorem mV_n (v : Int32) : (∃ a, a < 2 ^ 63 ∧ mV v = lN a) ∧ (if 0 < v.toInt64 then v.toInt64 else -v.toInt64) = mV v := by
  have e0 : (0 : Int64).toInt = 0 := rfl
  have z0 : (0 : Int32).toInt = 0 := rfl
  have hl := v.le_toInt
  have hu := v.toInt_lt
  have et : v.toInt64.toInt = v.toInt := Int32.toInt_toInt64 v
  have en : (-v.toInt64).toInt = -v.toInt := by
    rw [Int64.toInt_neg, et, Int.bmod_eq_of_le (by omega) (by omega)]
  by_cases h : 0 ≤ v
  · have hv : mV v = v.toInt64 := by unfold mV; rw [if_pos h]
    have h' := h
    rw [Int32.le_iff_toInt_le, z0] at h'
    refine ⟨?_, ?_⟩
    · rw [hv]
      apply pk_lOf
      rw [Int64.lt_iff_toInt_lt, et, e0]
      omega
    · rw [hv]
      split
      · rfl
      · rename_i hn
        rw [Int64.lt_iff_toInt_lt, et, e0] at hn
        apply Int64.toInt_inj.mp
        rw [en, et]
        omega
  · have hv : mV v = -v.toInt64 := by unfold mV; rw [if_neg h]
    have h' := h
    rw [Int32.le_iff_toInt_le, z0] at h'
    refine ⟨?_, ?_⟩
    · rw [hv]
      apply pk_lOf
      rw [Int64.lt_iff_toInt_lt, en, e0]
      omega
    · rw [hv, if_neg]
      rw [Int64.lt_iff_toInt_lt, et, e0]
      omega
/-- edit -/
theorem c_65 (d : Nat) {h0 h : im_H} {t : Nat → Nat → Int32} {m f fo : Nat} {oc pi pl : Int32} {sh : Value} {g : Nat → Int32} {len v : Int32} (hE : EC h0 h len g) (ho : 25 ≤ fo) (hx : h0[fo]? = some (.inr (3, cF (gF t m f) oc pi sh pl))) (hF : FldI t m f) (hL : 1 ≤ nv (t 8 (fI m f 3))) (Q : Option Value → im_H → Prop)
    (k : ∀ h' g', EC h0 h' (t 8 (fI m f 3)) g' → (∀ q, q < nv (t 8 (fI m f 3)) → g' q = (mEd (mFr t m f (mFl t m f v).1) (mFl t m f v).1 (mFl t m f v).2 (t 10) (nv (t 8 (fI m f 3))) q).toInt8.toInt32) → Q none h') : gC (gD (d + 4)) 65 [.ref 8, .ref fo, .int v] h Q := by
  obtain ⟨L, hL8, e3⟩ := ps_ex (hF.1 3 (by decide))
  have hL8 : L ≤ 80 := hL8
  have e3n : nv (t 8 (fI m f 3)) = L := by rw [e3, nv_nI (by omega)]
  obtain ⟨dc, hdc, e7⟩ := ps_ex (hF.1 7 (by decide))
  have hdc : dc ≤ 9 := hdc
  have e7n : nv (t 8 (fI m f 7)) = dc := by rw [e7, nv_nI (by omega)]
  have hd : dc = 0 ∨ dc < L := by
    have := hF.2.2.2.2.1
    rw [e7n, e3n] at this
    exact this
  obtain ⟨no, e11⟩ : ∃ no : Bool, t 8 (fI m f 11) = bI no := by
    obtain ⟨q, hq, eq⟩ := ps_ex (hF.1 11 (by decide))
    have hq : q ≤ 1 := hq
    have : q = 0 ∨ q = 1 := by omega
    rcases this with rfl | rfl
    · exact ⟨false, eq⟩
    · exact ⟨true, eq⟩
  obtain ⟨rt, e10⟩ : ∃ rt : Bool, t 8 (fI m f 10) = bI rt := by
    obtain ⟨q, hq, eq⟩ := ps_ex (hF.1 10 (by decide))
    have hq : q ≤ 1 := hq
    have : q = 0 ∨ q = 1 := by omega
    rcases this with rfl | rfl
    · exact ⟨false, eq⟩
    · exact ⟨true, eq⟩
  obtain ⟨⟨a, ha, eV⟩, eab⟩ := mV_n v
  obtain ⟨ng, hng⟩ : ∃ ng : Bool, ¬ 0 ≤ v ↔ ng = true := ⟨decide (¬ 0 ≤ v), by rw [decide_eq_true_iff]⟩
  have hno : t 8 (fI m f 11) = 1 ↔ no = true := by
    rw [e11]
    cases no
    · exact ⟨fun z => absurd z (by decide), (fun z => nomatch z)⟩
    · exact ⟨fun _ => rfl, fun _ => rfl⟩
  rw [e3n] at hL
  obtain ⟨f1, f2⟩ := mFl_n (t := t) (m := m) (f := f) (v := v) eV ha hL e3n e7n hd hno hng
  have hnl : eN a dc L no ng ≤ L := by
    unfold eN
    have := sN_le a dc L
    split
    · omega
    · split
      · rename_i z; have := z.2; omega
      · omega
  rw [e3n] at k
  -- the last of it
  have fin : ∀ (h : im_H) (g : Nat → Int32) (x3 : Int32), EC h0 h (nI L) g → eAt L (eN a dc L no ng) (eD a dc L no ng) g → x3 = nI (L - eN a dc L no ng) → gG tb_T (gD (d + 3)) none cd_65 39 [some (.ref 8), some (.ref fo), some (.int v), some (.int x3)] [] h Q := by
    intro h g x3 hE hat hx3
    subst hx3
    have hx1 : h[fo]? = some (.inr (3, cF (gF t m f) oc pi sh pl)) := by rw [hE.far fo ho]; exact hx
    have er : gF t m f 10 = bI rt := e10
    refine gG.step rfl (fun _ => rfl) ?_
    refine gG.get rfl (hx1) rfl ?_
    rw [er]
    cases rt with
    | true =>
      refine gG.ifc (tgt := 51) rfl rfl (fun _ => ?_) (fun c => absurd (by decide) c)
      refine gG.done rfl (fun _ => rfl) (k h g (by rw [e3]; exact hE) (fun q hq => ?_))
      have er1 : mFr t m f (mFl t m f v).1 = L - eN a dc L no ng := by
        unfold mFr
        rw [e10, if_pos (show bI true = 1 from rfl), e3n, f1]
      rw [er1, mEd_at L q hq, f1]
      by_cases hc : L - eN a dc L no ng ≤ q ∧ q < L - eN a dc L no ng + eN a dc L no ng
      · rw [if_pos hc, f2 _ (by omega), i8_id (eD_ps _ _ _ _ _ _)]
        have := hat.1 (L - 1 - q) (by omega)
        rw [show L - 1 - (L - 1 - q) = q by omega] at this
        rw [this]
        congr 1
        omega
      · rw [if_neg hc]
        exact hat.2 q (by omega) (by omega)
    | false =>
      refine gG.ifc (tgt := 51) rfl rfl (fun c => absurd c (by decide)) (fun _ => ?_)
      iterate 2 refine gG.step rfl (fun _ => rfl) ?_
      refine gG.vir rfl (hE.2.1) rfl rfl (Nat.le_of_ble_eq_true rfl) rfl rfl (Nat.le_of_ble_eq_true rfl) ?_
      refine c_68 d hE hL8 hnl hat (eD_ps _ _ _ _ _) _ (fun h g hE hg => ?_)
      refine gG.done rfl (fun _ => rfl) (k h g (by rw [e3]; exact hE) (fun q hq => ?_))
      have er1 : mFr t m f (mFl t m f v).1 = 0 := by
        unfold mFr
        rw [e10, if_neg (show ¬ bI false = 1 by decide)]
      rw [hg q hq, er1, mEd_at L q hq, f1]
      by_cases hc : q < eN a dc L no ng
      · rw [if_pos hc, if_pos ⟨Nat.zero_le _, by omega⟩, f2 _ (by omega), i8_id (eD_ps _ _ _ _ _ _)]
        rfl
      · rw [if_neg hc, if_neg (by omega)]
        rfl
  have hx1 : h[fo]? = some (.inr (3, cF (gF t m f) oc pi sh pl)) := by rw [hE.far fo ho]; exact hx
  have eg3 : gF t m f 3 = nI L := e3
  refine gC.of (q := me_65.2) rfl (Nat.le_of_ble_eq_true rfl) rfl ?_
  iterate 2 refine gG.step (cd := cd_65) rfl (fun _ => rfl) ?_
  refine gG.get rfl (hx1) rfl ?_
  rw [eg3]
  refine gG.put (k := 1) rfl hE.2.1 (Nat.le_of_ble_eq_true rfl) rfl rfl ?_
  have hE : EC h0 (h.set 8 (.inr (1, [.ref 9, .int (nI L)]))) (nI L) g := ⟨hE.1.set hE.2.1 rfl (by decide) (by decide), set_at hE.2.1, by rw [set_ne (by decide)]; exact hE.2.2⟩
  show gG _ _ _ _ 8 _ [] (h.set 8 (.inr (1, [.ref 9, .int (nI L)]))) Q
  generalize h.set 8 (.inr (1, [.ref 9, .int (nI L)])) = h1 at hE
  refine gG.step rfl (fun _ => rfl) ?_
  refine gG.get rfl (hE.2.1) rfl ?_
  refine gG.step rfl (fun _ => rfl) ?_
  refine gG.inv rfl (fun _ => rfl) (Nat.le_of_ble_eq_true rfl) rfl rfl (Nat.le_of_ble_eq_true rfl) ?_
  refine c_641 (d + 2) hE (x := 32) (y := 32) rfl _ (fun h hE => ?_)
  iterate 3 refine gG.step rfl (fun _ => rfl) ?_
  refine gG.step rfl (fun _ => rfl) ?_
  refine gG.inv rfl (fun _ => rfl) (Nat.le_of_ble_eq_true rfl) rfl rfl (Nat.le_of_ble_eq_true rfl) ?_
  refine gC.nat rfl (r := some (.long (if 0 < v.toInt64 then v.toInt64 else -v.toInt64))) (h' := h) rfl ?_
  rw [eab, eV]
  show gG _ _ _ _ 24 _ [Value.long (lN a), Value.ref fo, Value.ref 8] h Q
  refine gG.vir rfl (hE.2.1) rfl rfl (Nat.le_of_ble_eq_true rfl) rfl rfl (Nat.le_of_ble_eq_true rfl) ?_
  refine c_66 (d + 2) hE ho hx ha hL hL8 e7 hd e11 (fun q hq => if_pos hq) _ (fun h g hE hat => ?_)
  show gG _ _ _ _ 27 _ [Value.int (nI (L - (if no = true then L else sN a dc L)))] h Q
  refine gG.step (L' := [some (.ref 8), some (.ref fo), some (.int v), some (.int (nI (L - (if no = true then L else sN a dc L))))]) rfl (fun _ => rfl) ?_
  refine gG.step rfl (fun _ => rfl) ?_
  cases ng with
  | false =>
    have h0v : 0 ≤ v := Decidable.byContradiction (fun z => by have := hng.mp z; cases this)
    refine gG.ifc (tgt := 39) rfl rfl (fun _ => ?_) (fun c => absurd (decide_eq_true h0v) c)
    have en1 : eN a dc L no false = if no = true then L else sN a dc L := by
      unfold eN
      cases no
      · rw [if_neg (by decide), if_neg (fun z => by cases z.1), if_neg (by decide)]
      · rfl
    refine fin h g _ hE ?_ (by rw [en1])
    rw [en1]
    refine ⟨fun i hi => ?_, hat.2⟩
    rw [hat.1 i hi]
    unfold eD
    cases no
    · rw [if_neg (by decide), if_neg (fun z => by cases z.1)]
    · rw [if_pos rfl, if_neg (fun z => by cases z.1)]
  | true =>
    have h0v : ¬ 0 ≤ v := hng.mpr rfl
    refine gG.ifc (tgt := 39) rfl rfl (fun c => absurd (of_decide_eq_true c) h0v) (fun _ => ?_)
    iterate 3 refine gG.step rfl (fun _ => rfl) ?_
    refine gG.vir rfl (hE.2.1) rfl rfl (Nat.le_of_ble_eq_true rfl) rfl rfl (Nat.le_of_ble_eq_true rfl) ?_
    refine c_67 (d + 2) hE ho hx hL hL8 e11 hat _ (fun h g hE hat => ?_)
    show gG _ _ _ _ 38 _ [Value.int (nI (L - eN a dc L no true))] h Q
    refine gG.step (L' := [some (.ref 8), some (.ref fo), some (.int v), some (.int (nI (L - eN a dc L no true)))]) rfl (fun _ => rfl) ?_
    exact fin h g _ hE hat rfl
/-- only what is edited has changed -/
theorem CS_8 {V : Prop} {A : Bk} {h h' : im_H} {s s' : Nat → Int32} {t t' : Nat → Nat → Int32} (hI : MI s t) (hf : fr 8 10 h h') (hs : ∀ j, j = 2 ∨ j = 10 ∨ j = 11 ∨ j = 12 ∨ j = 13 ∨ j = 14 ∨ j = 23 ∨ j = 24 ∨ j = 25 → s' j = s j) (ht : ∀ j, j ≠ 10 → j ≠ 12 → t' j = t j) (hX : CX h' s' t') (hS : CS V A h s t) : CS V A h' s' t' := by
  obtain ⟨a0, a1, a2, a3, a5, a6, a8, a10, aE⟩ := hS
  have q : ∀ k, k < 8 → h'[k]? = h[k]? := fun k hk => hf.2.2 k (Or.inl hk)
  have e0 : cT A s' = cT A s := by
    unfold cT
    rw [hs 2 (by decide), hs 10 (by decide), hs 11 (by decide), hs 12 (by decide)]
  unfold CS CD CL
  rw [q 0 (by decide), q 1 (by decide), q 2 (by decide), q 3 (by decide), q 5 (by decide), q 6 (by decide), q 7 (by decide), e0, hs 10 (by decide), hs 13 (by decide), hs 14 (by decide), ht 1 (by decide) (by decide)]
  exact ⟨a0, a1, a2, a3, a5, a6, hX, IR_keep (hf.2.2 10 (Or.inr (by decide))) (hs 23 (by decide)) (hs 24 (by decide)) (hs 25 (by decide)) (hs 10 (by decide)) (ht 3 (by decide) (by decide)) (ht 4 (by decide) (by decide)) (ht 7 (by decide) (by decide)) (ht 8 (by decide) (by decide)) (fun j _ => by rw [ht 11 (by decide) (by decide)]) a10, fun e he => CE_keep0 (hI.2 e he) (fun k hk => hf.2.2 k (Or.inr (by omega))) (fun j a b => ht j (by omega) (by omega)) (aE e he)⟩
/-- fill -/
theorem c_455 (d : Nat) {V : Prop} {A : Bk} {h : im_H} {s : Nat → Int32} {t : Nat → Nat → Int32} (hS : CS V A h s t) (hR : RI s t) (map field v : Int32) (Q : Option Value → im_H → Prop) (k : ∀ h', fr 8 10 h h' → CS V A h' (mFill s t map field v).2.1 (mFill s t map field v).2.2 → Q (some (.int (mFill s t map field v).1)) h') : gC (gD (d + 5)) 455 [.ref 0, .int map, .int field, .int v] h Q := by
  have h0 := hS.1
  have hI := hR.1
  refine gC.of (q := me_455.2) rfl (Nat.le_of_ble_eq_true rfl) rfl ?_
  iterate 3 refine gG.step (cd := cd_455) rfl (fun _ => rfl) ?_
  refine gG.vir rfl (h0) rfl rfl (Nat.le_of_ble_eq_true rfl) rfl rfl (Nat.le_of_ble_eq_true rfl) ?_
  refine c_465 (d + 2) hS hI map field ?_
  show gG _ _ _ _ 6 _ [va_rf ((cFh s t map field).map fun z => A.2.2 z.1 z.2)] h Q
  unfold mFill at k
  unfold cFh
  cases ho : mHandO s t map with
  | none =>
    rw [ho] at k
    refine gG.step rfl (fun _ => rfl) ?_
    refine gG.step rfl (fun _ => rfl) ?_
    refine gG.step rfl (fun _ => rfl) ?_
    refine gG.step rfl (fun _ => rfl) ?_
    exact gG.done rfl (fun _ => rfl) (k h fr.rf hS)
  | some m =>
    rw [ho] at k
    dsimp only at k ⊢
    have hM := (mHandO_some hI ho).2.1
    have hm := hS.map hI ho
    cases hf : mFldO t m field with
    | none =>
      rw [hf] at k
      refine gG.step rfl (fun _ => rfl) ?_
      refine gG.step rfl (fun _ => rfl) ?_
      refine gG.step rfl (fun _ => rfl) ?_
      refine gG.step rfl (fun _ => rfl) ?_
      exact gG.done rfl (fun _ => rfl) (k h fr.rf hS)
    | some f =>
      rw [hf] at k
      dsimp only at k
      obtain ⟨hf1, hf2, hf3⟩ := mFldO_some hf
      obtain ⟨oc, pi, -, ho25, sh, hx, -⟩ := hm.2.2.2 f hf1
      have hF := hM.2.2.2.2 f hf1
      have hL : 1 ≤ nv (t 8 (fI m f 3)) := by
        apply hF.2.2.2.1
        apply nv_pos (hF.1 0 (by decide))
        intro z
        rw [← hf3, z] at hf2
        exact absurd hf2 (by decide)
      obtain ⟨h8, g9, h9, -⟩ := hS.2.2.2.2.2.2.1
      refine gG.step (L' := [some (.ref 0), some (.int map), some (.int field), some (.int v), some (.ref (A.2.2 m f))]) rfl (fun _ => rfl) ?_
      refine gG.step rfl (fun _ => rfl) ?_
      refine gG.jmp (tgt := 16) rfl (fun _ => rfl) rfl ?_
      refine gG.step rfl (fun _ => rfl) ?_
      refine gG.get rfl (h0) rfl ?_
      iterate 2 refine gG.step rfl (fun _ => rfl) ?_
      refine gG.vir rfl (h8) rfl rfl (Nat.le_of_ble_eq_true rfl) rfl rfl (Nat.le_of_ble_eq_true rfl) ?_
      refine c_65 d (h0 := h) ⟨fr.rf, h8, h9⟩ ho25 hx hF hL _ (fun h1 g hE hg => ?_)
      have h01 : h1[0]? = some (.inr (7, cT A s)) := by rw [hE.1.2.2 0 (Or.inl (by decide))]; exact h0
      refine gG.step rfl (fun _ => rfl) ?_
      refine gG.get rfl (h01) rfl ?_
      refine gG.get rfl (hE.2.1) rfl ?_
      refine gG.done rfl (fun _ => rfl) (k h1 hE.1 (CS_8 hI hE.1 (fun j hj => ?_) (fun j h10 h12 => ?_) ?_ hS))
      · rcases hj with rfl | rfl | rfl | rfl | rfl | rfl | rfl | rfl | rfl <;> rfl
      · rw [va_up_ne _ _ h10, va_up_ne _ _ h12]
      · refine ⟨hE.2.1, g, hE.2.2, fun j hj => ?_⟩
        rw [va_up_self]
        exact hg j hj
/-- octet, where it answers -/
theorem c_456 (d : Nat) {V : Prop} {A : Bk} {h : im_H} {s : Nat → Int32} {t : Nat → Nat → Int32} (hS : CS V A h s t) (hR : RI s t) {i : Int32} (hi : 0 ≤ i ∧ i ≤ s 21 - 1) (Q : Option Value → im_H → Prop) (k : Q (some (.int (mOctet s t i))) h) : gC (gD (d + 1)) 456 [.ref 0, .int i] h Q := by
  have h0 := hS.1
  obtain ⟨h8, g9, h9, hg⟩ := hS.2.2.2.2.2.2.1
  have p21 := hR.2.2.1
  have b21 := p21.2
  unfold mOctet at k
  rw [if_pos hi] at k
  rw [p21.1] at hi
  obtain ⟨j, hj, rfl⟩ := wn_of (by omega) hi
  rw [nv_nI (by omega)] at k
  refine gC.of (q := me_456.2) rfl (Nat.le_of_ble_eq_true rfl) rfl ?_
  refine gG.step (cd := cd_456) rfl (fun _ => rfl) ?_
  refine gG.ifc (tgt := 15) rfl rfl (fun c => absurd c (c_ltn (by omega))) (fun _ => ?_)
  iterate 2 refine gG.step rfl (fun _ => rfl) ?_
  refine gG.get rfl (h0) rfl ?_
  refine gG.get rfl (h8) rfl ?_
  rw [p21.1]
  refine gG.icmp (tgt := 23) rfl rfl (fun _ => ?_) (fun c => absurd ((c_lt (by omega) (by omega)).mpr hj) c)
  refine gG.step rfl (fun _ => rfl) ?_
  refine gG.get rfl (h0) rfl ?_
  refine gG.get rfl (h8) rfl ?_
  refine gG.step rfl (fun _ => rfl) ?_
  refine gG.bald (j := j) rfl h9 rfl (by omega) (by decide) ?_
  rw [hg j hj]
  refine gG.done rfl (fun _ => ?_) k
  show im_ret (some .byte) [Value.int (t 10 j).toInt8.toInt32] h = _
  unfold im_ret
  dsimp only
  rw [if_pos]
  show ((t 10 j).toInt8.toInt32.toInt8.toInt32 == (t 10 j).toInt8.toInt32) = true
  simp
