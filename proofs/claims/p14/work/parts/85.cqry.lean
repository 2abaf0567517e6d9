section CQ2
variable {V : Prop} {A : Bk} {h : im_H} {s : Nat → Int32} {t : Nat → Nat → Int32} {Q : Option Value → im_H → Prop}
theorem tsw_out {dflt lo hi : Int} {offs : Array Int} {a : Int32} (h : a.toInt < lo ∨ hi < a.toInt) : im_tsw dflt lo hi offs a = some dflt := by
  unfold im_tsw
  rw [if_pos h]
theorem plS_named {t : Nat → Nat → Int32} {m f : Nat} (h : 0 < t 8 (fI m f 0)) : plS t m f = mBT t m f := by
  unfold plS
  rw [if_neg]
  intro z
  rw [z] at h
  exact absurd h (by decide)
/-- layout -/
theorem c_453 (d : Nat) (hS : CS V A h s t) (hI : MI s t) (map field what : Int32) (k : Q (some (.int (mLayout s t map field what))) h) : gC (gD (d + 3)) 453 [.ref 0, .int map, .int field, .int what] h Q := by
  have h0 := hS.1
  obtain ⟨xa, ha⟩ := hS.hnd hI
  refine gC.of (q := me_453.2) rfl (Nat.le_of_ble_eq_true rfl) rfl ?_
  refine gG.step (cd := cd_453) rfl (fun _ => rfl) ?_
  refine gG.get rfl (h0) rfl ?_
  refine gG.step rfl (fun _ => rfl) ?_
  show gG _ _ _ _ 5 _ [Value.int map, Value.ref (hd A s)] h Q
  refine gG.vir rfl (ha) rfl rfl (Nat.le_of_ble_eq_true rfl) rfl rfl (Nat.le_of_ble_eq_true rfl) ?_
  refine c_hand (d + 1) hS hI map ?_
  show gG _ _ _ _ 8 _ [va_rf ((mHandO s t map).map A.2.1)] h Q
  unfold mLayout at k
  cases ho : mHandO s t map with
  | none =>
    rw [ho] at k
    refine gG.step rfl (fun _ => rfl) ?_
    refine gG.step rfl (fun _ => rfl) ?_
    refine gG.step rfl (fun _ => rfl) ?_
    refine gG.step rfl (fun _ => rfl) ?_
    exact gG.done rfl (fun _ => rfl) (k)
  | some m =>
    rw [ho] at k
    dsimp only at k
    have hM := (mHandO_some hI ho).2.1
    have hm := hS.map hI ho
    have ho := hm.2.1
    rw [va_some]
    refine gG.step (L' := [some (.ref 0), some (.int map), some (.int field), some (.int what), some (.ref (A.2.1 m)), none]) rfl (fun _ => rfl) ?_
    refine gG.step rfl (fun _ => rfl) ?_
    refine gG.jmp (tgt := 17) rfl (fun _ => rfl) rfl ?_
    refine gG.step rfl (fun _ => rfl) ?_
    refine gG.ifc (tgt := 35) rfl rfl (fun c => ?_) (fun c => ?_)
    case refine_2 =>
      rw [if_pos (Decidable.not_not.mp (fun z => c (c_ne.mpr z)))] at k
      refine gG.step rfl (fun _ => rfl) ?_
      refine gG.ifc (tgt := 33) rfl rfl (fun c => ?_) (fun c => ?_)
      · rw [if_neg (c_ne.mp c)] at k
        refine gG.step rfl (fun _ => rfl) ?_
        exact gG.done rfl (fun _ => rfl) (k)
      · rw [if_pos (Decidable.not_not.mp (fun z => c (c_ne.mpr z)))] at k
        refine gG.step rfl (fun _ => rfl) ?_
        refine gG.get rfl (ho) rfl ?_
        refine gG.goto (tgt := 34) rfl rfl ?_
        exact gG.done rfl (fun _ => rfl) (k)
    case refine_1 =>
    rw [if_neg (c_ne.mp c)] at k
    iterate 2 refine gG.step rfl (fun _ => rfl) ?_
    refine gG.vir rfl (ho) rfl rfl (Nat.le_of_ble_eq_true rfl) rfl rfl (Nat.le_of_ble_eq_true rfl) ?_
    refine c_385 (d + 1) hm hM.2.2.2.1 field ?_
    rw [cNm_eq hM]
    show gG _ _ _ _ 41 _ [va_rf ((mFldO t m field).map (A.2.2 m))] h Q
    cases hf : mFldO t m field with
    | none =>
      rw [hf] at k
      refine gG.step rfl (fun _ => rfl) ?_
      refine gG.step rfl (fun _ => rfl) ?_
      refine gG.step rfl (fun _ => rfl) ?_
      refine gG.step rfl (fun _ => rfl) ?_
      exact gG.done rfl (fun _ => rfl) (k)
    | some f =>
      rw [hf] at k
      dsimp only at k
      obtain ⟨hf1, hf2, hf3⟩ := mFldO_some hf
      obtain ⟨oc, pi, sh, -, hx, -⟩ := hm.fld hf1
      rw [plS_named (by rw [hf3]; exact hf2)] at hx
      rw [va_some]
      refine gG.step (L' := [some (.ref 0), some (.int map), some (.int field), some (.int what), some (.ref (A.2.1 m)), some (.ref (A.2.2 m f))]) rfl (fun _ => rfl) ?_
      refine gG.step rfl (fun _ => rfl) ?_
      refine gG.jmp (tgt := 50) rfl (fun _ => rfl) rfl ?_
      refine gG.step rfl (fun _ => rfl) ?_
      by_cases w0 : what = 0
      · rw [if_pos w0] at k
        subst w0
        refine gG.tsw (off := 29) (tgt := 80) rfl rfl rfl ?_
        refine gG.step rfl (fun _ => rfl) ?_
        refine gG.get rfl (hx) rfl ?_
        exact gG.done rfl (fun _ => rfl) (k)
      rw [if_neg w0] at k
      by_cases w1 : what = 1
      · rw [if_pos w1] at k
        subst w1
        refine gG.tsw (off := 35) (tgt := 86) rfl rfl rfl ?_
        refine gG.step rfl (fun _ => rfl) ?_
        refine gG.get rfl (hx) rfl ?_
        iterate 2 refine gG.step rfl (fun _ => rfl) ?_
        exact gG.done rfl (fun _ => rfl) (k)
      rw [if_neg w1] at k
      by_cases w2 : what = 2
      · rw [if_pos w2] at k
        subst w2
        refine gG.tsw (off := 43) (tgt := 94) rfl rfl rfl ?_
        refine gG.step rfl (fun _ => rfl) ?_
        refine gG.get rfl (hx) rfl ?_
        iterate 2 refine gG.step rfl (fun _ => rfl) ?_
        exact gG.done rfl (fun _ => rfl) (k)
      rw [if_neg w2] at k
      by_cases w3 : what = 3
      · rw [if_pos w3] at k
        subst w3
        refine gG.tsw (off := 51) (tgt := 102) rfl rfl rfl ?_
        refine gG.step rfl (fun _ => rfl) ?_
        refine gG.vir rfl (hx) rfl rfl (Nat.le_of_ble_eq_true rfl) rfl rfl (Nat.le_of_ble_eq_true rfl) ?_
        refine c_197 d hx ?_
        have e : (3 + gF t m f 3) * gF t m f 5 = mBO t m f := by
          rw [Int32.mul_comm]
          rfl
        rw [e]
        exact gG.done rfl (fun _ => rfl) (k)
      rw [if_neg w3] at k
      refine gG.tsw (off := 57) (tgt := 108) rfl (tsw_out ?_) rfl ?_
      · have e0 := i_ne w0
        have e1 := i_ne w1
        have e2 := i_ne w2
        have e3 := i_ne w3
        have z0 : (0 : Int32).toInt = 0 := rfl
        have z1 : (1 : Int32).toInt = 1 := rfl
        have z2 : (2 : Int32).toInt = 2 := rfl
        have z3 : (3 : Int32).toInt = 3 := rfl
        omega
      refine gG.step rfl (fun _ => rfl) ?_
      exact gG.done rfl (fun _ => rfl) (k)
/-- told -/
theorem c_461 (d : Nat) (hS : CS V A h s t) (hI : MI s t) (what : Int32) (k : Q (some (.int (mTold s t what))) h) : gC (gD (d + 1)) 461 [.ref 0, .int what] h Q := by
  have h0 := hS.1
  obtain ⟨xa, ha⟩ := hS.hnd hI
  have h10 : ∃ mp z, h[10]? = some (.inr (4, cI mp (s 23) z)) := by
    rcases hS.2.2.2.2.2.2.2.1 with ⟨z, hz, e⟩ | ⟨m, hm, -⟩
    · rw [e]
      exact ⟨_, _, hz⟩
    · exact ⟨_, _, hm⟩
  obtain ⟨mp, z, h10⟩ := h10
  refine gC.of (q := me_461.2) rfl (Nat.le_of_ble_eq_true rfl) rfl ?_
  refine gG.step (cd := cd_461) rfl (fun _ => rfl) ?_
  unfold mTold at k
  by_cases w0 : what = 0
  · rw [if_pos w0] at k
    subst w0
    refine gG.tsw (off := 39) (tgt := 40) rfl rfl rfl ?_
    refine gG.step rfl (fun _ => rfl) ?_
    refine gG.get rfl (h0) rfl ?_
    exact gG.done rfl (fun _ => rfl) (k)
  rw [if_neg w0] at k
  by_cases w1 : what = 1
  · rw [if_pos w1] at k
    subst w1
    refine gG.tsw (off := 44) (tgt := 45) rfl rfl rfl ?_
    refine gG.step rfl (fun _ => rfl) ?_
    refine gG.get rfl (h0) rfl ?_
    exact gG.done rfl (fun _ => rfl) (k)
  rw [if_neg w1] at k
  by_cases w2 : what = 2
  · rw [if_pos w2] at k
    subst w2
    refine gG.tsw (off := 49) (tgt := 50) rfl rfl rfl ?_
    refine gG.step rfl (fun _ => rfl) ?_
    refine gG.get rfl (h0) rfl ?_
    exact gG.done rfl (fun _ => rfl) (k)
  rw [if_neg w2] at k
  by_cases w3 : what = 3
  · rw [if_pos w3] at k
    subst w3
    refine gG.tsw (off := 54) (tgt := 55) rfl rfl rfl ?_
    refine gG.step rfl (fun _ => rfl) ?_
    refine gG.get rfl (h0) rfl ?_
    show gG _ _ _ _ 59 _ [Value.ref (hd A s)] h Q
    refine gG.get rfl (ha) rfl ?_
    exact gG.done rfl (fun _ => rfl) (k)
  rw [if_neg w3] at k
  by_cases w4 : what = 4
  · rw [if_pos w4] at k
    subst w4
    refine gG.tsw (off := 62) (tgt := 63) rfl rfl rfl ?_
    refine gG.step rfl (fun _ => rfl) ?_
    refine gG.get rfl (h0) rfl ?_
    exact gG.done rfl (fun _ => rfl) (k)
  rw [if_neg w4] at k
  by_cases w5 : what = 5
  · rw [if_pos w5] at k
    subst w5
    refine gG.tsw (off := 67) (tgt := 68) rfl rfl rfl ?_
    refine gG.step rfl (fun _ => rfl) ?_
    refine gG.get rfl (h0) rfl ?_
    refine gG.get rfl (h10) rfl ?_
    exact gG.done rfl (fun _ => rfl) (k)
  rw [if_neg w5] at k
  refine gG.tsw (off := 75) (tgt := 76) rfl (tsw_out ?_) rfl ?_
  · have e0 := i_ne w0
    have e1 := i_ne w1
    have e2 := i_ne w2
    have e3 := i_ne w3
    have e4 := i_ne w4
    have e5 := i_ne w5
    have z0 : (0 : Int32).toInt = 0 := rfl
    have z1 : (1 : Int32).toInt = 1 := rfl
    have z2 : (2 : Int32).toInt = 2 := rfl
    have z3 : (3 : Int32).toInt = 3 := rfl
    have z4 : (4 : Int32).toInt = 4 := rfl
    have z5 : (5 : Int32).toInt = 5 := rfl
    omega
  refine gG.step rfl (fun _ => rfl) ?_
  exact gG.done rfl (fun _ => rfl) (k)
/-- fieldAtHand -/
def cFh (s : Nat → Int32) (t : Nat → Nat → Int32) (map field : Int32) : Option (Nat × Nat) := match mHandO s t map with
  | none => none
  | some m => (mFldO t m field).map fun f => (m, f)
theorem c_465 (d : Nat) (hS : CS V A h s t) (hI : MI s t) (map field : Int32) (k : Q (some (va_rf ((cFh s t map field).map fun z => A.2.2 z.1 z.2))) h) : gC (gD (d + 2)) 465 [.ref 0, .int map, .int field] h Q := by
  have h0 := hS.1
  obtain ⟨xa, ha⟩ := hS.hnd hI
  refine gC.of (q := me_465.2) rfl (Nat.le_of_ble_eq_true rfl) rfl ?_
  refine gG.step (cd := cd_465) rfl (fun _ => rfl) ?_
  refine gG.get rfl (h0) rfl ?_
  refine gG.step rfl (fun _ => rfl) ?_
  show gG _ _ _ _ 5 _ [Value.int map, Value.ref (hd A s)] h Q
  refine gG.vir rfl (ha) rfl rfl (Nat.le_of_ble_eq_true rfl) rfl rfl (Nat.le_of_ble_eq_true rfl) ?_
  refine c_hand d hS hI map ?_
  show gG _ _ _ _ 8 _ [va_rf ((mHandO s t map).map A.2.1)] h Q
  unfold cFh at k
  cases ho : mHandO s t map with
  | none =>
    rw [ho] at k
    refine gG.step rfl (fun _ => rfl) ?_
    refine gG.step rfl (fun _ => rfl) ?_
    refine gG.step rfl (fun _ => rfl) ?_
    refine gG.step rfl (fun _ => rfl) ?_
    refine gG.goto (tgt := 22) rfl rfl ?_
    exact gG.done rfl (fun _ => rfl) (k)
  | some m =>
    rw [ho] at k
    dsimp only at k
    have hM := (mHandO_some hI ho).2.1
    have hm := hS.map hI ho
    have ho := hm.2.1
    rw [va_some]
    refine gG.step (L' := [some (.ref 0), some (.int map), some (.int field), some (.ref (A.2.1 m))]) rfl (fun _ => rfl) ?_
    refine gG.step rfl (fun _ => rfl) ?_
    refine gG.jmp (tgt := 17) rfl (fun _ => rfl) rfl ?_
    iterate 2 refine gG.step rfl (fun _ => rfl) ?_
    refine gG.vir rfl (ho) rfl rfl (Nat.le_of_ble_eq_true rfl) rfl rfl (Nat.le_of_ble_eq_true rfl) ?_
    refine c_385 d hm hM.2.2.2.1 field ?_
    rw [cNm_eq hM]
    cases hf : mFldO t m field with
    | none =>
      rw [hf] at k
      exact gG.done rfl (fun _ => rfl) (k)
    | some f =>
      rw [hf] at k
      exact gG.done rfl (fun _ => rfl) (k)
/-- group -/
theorem cGw_eq {t : Nat → Nat → Int32} {m : Nat} {gr : Int32} : ∀ n, cGw t m gr n = mGS t m gr n
  | 0 => rfl
  | n + 1 => by rw [cGw, mGS, cGw_eq n]
theorem c_460 (d : Nat) (hS : CS V A h s t) (hI : MI s t) (map field : Int32) (k : Q (some (.int (mGroup s t map field))) h) : gC (gD (d + 3)) 460 [.ref 0, .int map, .int field] h Q := by
  have h0 := hS.1
  obtain ⟨xa, ha⟩ := hS.hnd hI
  refine gC.of (q := me_460.2) rfl (Nat.le_of_ble_eq_true rfl) rfl ?_
  iterate 3 refine gG.step (cd := cd_460) rfl (fun _ => rfl) ?_
  refine gG.vir rfl (h0) rfl rfl (Nat.le_of_ble_eq_true rfl) rfl rfl (Nat.le_of_ble_eq_true rfl) ?_
  refine c_465 d hS hI map field ?_
  show gG _ _ _ _ 6 _ [va_rf ((cFh s t map field).map fun z => A.2.2 z.1 z.2)] h Q
  unfold mGroup at k
  unfold cFh
  cases ho : mHandO s t map with
  | none =>
    rw [ho] at k
    refine gG.step rfl (fun _ => rfl) ?_
    refine gG.step rfl (fun _ => rfl) ?_
    refine gG.get rfl (h0) rfl ?_
    refine gG.step rfl (fun _ => rfl) ?_
    show gG _ _ _ _ 12 _ [Value.int map, Value.ref (hd A s)] h Q
    refine gG.vir rfl (ha) rfl rfl (Nat.le_of_ble_eq_true rfl) rfl rfl (Nat.le_of_ble_eq_true rfl) ?_
    refine c_hand (d + 1) hS hI map ?_
    rw [ho]
    refine gG.step rfl (fun _ => rfl) ?_
    refine gG.step rfl (fun _ => rfl) ?_
    refine gG.jmp (tgt := 26) rfl (fun _ => rfl) rfl ?_
    refine gG.step rfl (fun _ => rfl) ?_
    exact gG.done rfl (fun _ => rfl) (k)
  | some m =>
    rw [ho] at k
    dsimp only at k ⊢
    have hM := (mHandO_some hI ho).2.1
    have hm := hS.map hI ho
    have ho' := hm.2.1
    cases hf : mFldO t m field with
    | none =>
      rw [hf] at k
      refine gG.step rfl (fun _ => rfl) ?_
      refine gG.step rfl (fun _ => rfl) ?_
      refine gG.get rfl (h0) rfl ?_
      refine gG.step rfl (fun _ => rfl) ?_
      show gG _ _ _ _ 12 _ [Value.int map, Value.ref (hd A s)] h Q
      refine gG.vir rfl (ha) rfl rfl (Nat.le_of_ble_eq_true rfl) rfl rfl (Nat.le_of_ble_eq_true rfl) ?_
      refine c_hand (d + 1) hS hI map ?_
      rw [ho]
      refine gG.step rfl (fun _ => rfl) ?_
      refine gG.step rfl (fun _ => rfl) ?_
      refine gG.jmp (tgt := 26) rfl (fun _ => rfl) rfl ?_
      refine gG.step rfl (fun _ => rfl) ?_
      exact gG.done rfl (fun _ => rfl) (k)
    | some f =>
      rw [hf] at k
      dsimp only at k
      obtain ⟨hf1, hf2, hf3⟩ := mFldO_some hf
      obtain ⟨oc, pi, sh, -, hx, -⟩ := hm.fld hf1
      refine gG.step (L' := [some (.ref 0), some (.int map), some (.int field), some (.ref (A.2.2 m f)), none]) rfl (fun _ => rfl) ?_
      refine gG.step rfl (fun _ => rfl) ?_
      refine gG.get rfl (h0) rfl ?_
      refine gG.step rfl (fun _ => rfl) ?_
      show gG _ _ _ _ 12 _ [Value.int map, Value.ref (hd A s)] h Q
      refine gG.vir rfl (ha) rfl rfl (Nat.le_of_ble_eq_true rfl) rfl rfl (Nat.le_of_ble_eq_true rfl) ?_
      refine c_hand (d + 1) hS hI map ?_
      rw [ho]
      refine gG.step (L' := [some (.ref 0), some (.int map), some (.int field), some (.ref (A.2.2 m f)), some (.ref (A.2.1 m))]) rfl (fun _ => rfl) ?_
      refine gG.step rfl (fun _ => rfl) ?_
      refine gG.step rfl (fun _ => rfl) ?_
      refine gG.step rfl (fun _ => rfl) ?_
      refine gG.jmp (tgt := 29) rfl (fun _ => rfl) rfl ?_
      refine gG.step rfl (fun _ => rfl) ?_
      refine gG.get rfl (hx) rfl ?_
      obtain ⟨a, hle, ea⟩ := ps_ex ((hM.2.2.2.2 f hf1).1 6 (by decide))
      have hle : a ≤ 99 := hle
      refine gG.ifc (tgt := 40) rfl rfl (fun c => ?_) (fun c => ?_)
      · have hne : ¬ t 8 (fI m f 6) = 0 := c_ne.mp c
        have hnle : ¬ t 8 (fI m f 6) ≤ 0 := by
          rw [ea] at hne ⊢
          have : a ≠ 0 := fun z => hne (by rw [z]; rfl)
          exact nI_nle (by omega) (by omega)
        rw [if_neg hnle] at k
        iterate 2 refine gG.step rfl (fun _ => rfl) ?_
        refine gG.get rfl (hx) rfl ?_
        refine gG.vir rfl (ho') rfl rfl (Nat.le_of_ble_eq_true rfl) rfl rfl (Nat.le_of_ble_eq_true rfl) ?_
        refine c_389 (d + 1) hm hM.2.2.2.1 _ ?_
        rw [cGw_eq]
        exact gG.done rfl (fun _ => rfl) (k)
      · have hz : t 8 (fI m f 6) = 0 := Decidable.not_not.mp (fun z => c (c_ne.mpr z))
        rw [if_pos (by rw [hz]; decide)] at k
        refine gG.step rfl (fun _ => rfl) ?_
        refine gG.goto (tgt := 49) rfl rfl ?_
        exact gG.done rfl (fun _ => rfl) (k)
/-- editionNumbered -/
theorem c_464 (d : Nat) (hS : CS V A h s t) (hI : MI s t) (x : Int32) (k : Q (some (va_rf (if 1 ≤ x ∧ x ≤ s 10 then some (A.1 (nv x - 1)) else none))) h) : gC (gD (d + 2)) 464 [.ref 0, .int x] h Q := by
  have h0 := hS.1
  obtain ⟨g2, h2, hg2⟩ := hS.2.2.1
  refine gC.of (q := me_464.2) rfl (Nat.le_of_ble_eq_true rfl) rfl ?_
  iterate 3 refine gG.step (cd := cd_464) rfl (fun _ => rfl) ?_
  refine gG.get rfl (h0) rfl ?_
  refine gG.inv rfl (fun _ => rfl) (Nat.le_of_ble_eq_true rfl) rfl rfl (Nat.le_of_ble_eq_true rfl) ?_
  refine c_466 d _ _ _ _ _ ?_
  show gG _ _ _ _ 9 _ [Value.int (bI (decide (1 ≤ x ∧ x ≤ s 10)))] h Q
  by_cases hc : 1 ≤ x ∧ x ≤ s 10
  · rw [if_pos hc] at k
    rw [decide_eq_true hc]
    refine gG.ifc (tgt := 23) rfl rfl (fun c => absurd c (by decide)) (fun _ => ?_)
    have hE := hI.1
    have hE6 := hE.2
    rw [hE.1] at hc
    obtain ⟨j, hj1, hj2, rfl⟩ := w1_of (by omega) hc
    rw [nv_nI (by omega)] at k
    refine gG.step rfl (fun _ => rfl) ?_
    refine gG.get rfl (h0) rfl ?_
    iterate 3 refine gG.step rfl (fun _ => rfl) ?_
    refine gG.aal (j := j - 1) (n := 6) rfl h2 (hg2 (j - 1) (by omega)) ?_ (by omega) (by decide) ?_
    · exact pk_sub (b := 1) (by omega)
    refine gG.goto (tgt := 24) rfl rfl ?_
    exact gG.done rfl (fun _ => rfl) (k)
  · rw [if_neg hc] at k
    rw [decide_eq_false hc]
    refine gG.ifc (tgt := 23) rfl rfl (fun _ => ?_) (fun c => absurd (by decide) c)
    refine gG.step rfl (fun _ => rfl) ?_
    exact gG.done rfl (fun _ => rfl) (k)
end CQ2
