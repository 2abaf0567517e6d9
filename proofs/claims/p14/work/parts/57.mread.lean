def mDF (t : Nat → Nat → Int32) (m : Nat) (o : Option Nat) (c0 : Int32) : Nat → Int32
  | 0 => c0
  | f + 1 => if 0 < t 8 (fI m f 0) ∧ mLike t m f o = false then mDF t m o c0 f + 1 else mDF t m o c0 f
def mDM (t : Nat → Nat → Int32) (e x : Nat) : Nat → Int32
  | 0 => 0
  | k + 1 => mDF t (8 * e + k) (mMapO t x (t 4 (8 * e + k))) (mDM t e x k) (nv (t 7 (8 * e + k)))
def mDiffer (s : Nat → Int32) (t : Nat → Nat → Int32) (edition : Int32) : Int32 := if 1 ≤ edition ∧ edition ≤ s 10 then mDM t (nv (s 10) - 1) (nv edition - 1) (nv (t 3 (nv (s 10) - 1))) else -2
/-- an Int32 between 1 and n -/
theorem w1_of {x : Int32} {n : Nat} (hn : n + 1 < 2 ^ 31) (h : 1 ≤ x ∧ x ≤ nI n) : ∃ j, 1 ≤ j ∧ j ≤ n ∧ x = nI j := by
  rcases pk_ix x (n := n + 1) hn with h1 | h1 | ⟨j, hj, rfl⟩
  · exfalso
    have h2 := h.1
    rw [Int32.lt_iff_toInt_lt] at h1
    rw [Int32.le_iff_toInt_le] at h2
    have a : (0 : Int32).toInt = 0 := by decide
    have b : (1 : Int32).toInt = 1 := by decide
    omega
  · exfalso
    have h2 := h.2
    rw [Int32.le_iff_toInt_le] at h1 h2
    rw [nI_toInt hn] at h1
    rw [nI_toInt (by omega)] at h2
    omega
  · refine ⟨j, ?_, by omega, rfl⟩
    apply Nat.pos_of_ne_zero
    intro hz
    subst hz
    exact absurd h.1 (by decide)
theorem m_548 (d : Nat) {b : Nat} {h0 h : im_H} {s : Nat → Int32} {t : Nat → Nat → Int32} (hM : MM b h0 h s t) (hI : MI s t) {edition : Int32} (Q : Option Value → im_H → Prop) (k : ∀ h', MM b h0 h' (upd s 0 0) t → Q (some (.int (mDiffer s t edition))) h') : gC (gD (d + 5)) 548 [.ref b, .int edition] h Q := by
  refine gC.of (q := me_548.2) rfl (Nat.le_of_ble_eq_true rfl) rfl ?_
  iterate 2 refine gG.step (cd := cd_548) rfl (fun _ => rfl) ?_
  refine mPut hM rfl (by decide) rfl rfl rfl (fun h hM => ?_)
  have k := k h hM
  have hI : MI (upd s 0 0) t := hI
  unfold mDiffer at k
  iterate 3 refine gG.step rfl (fun _ => rfl) ?_
  refine mGet hM rfl rfl ?_
  show gG _ _ _ _ 11 _ [Value.int (s 10), Value.int 1, Value.int edition] h Q
  refine gG.inv rfl (fun _ => rfl) (Nat.le_of_ble_eq_true rfl) rfl rfl (Nat.le_of_ble_eq_true rfl) ?_
  refine m_514 (d + 3) _ _ _ _ _ ?_
  show gG _ _ _ _ 14 _ [Value.int (bI (decide (1 ≤ edition ∧ edition ≤ s 10)))] h Q
  by_cases he : 1 ≤ edition ∧ edition ≤ s 10
  · rw [if_pos he] at k
    rw [decide_eq_true he]
    have hE : ps (s 10) 6 := hI.1
    have hE6 := hE.2
    rw [hE.1] at he
    obtain ⟨x, hx1, hx2, rfl⟩ := w1_of (by omega) he
    rw [nv_nI (n := x) (by omega)] at k
    refine gG.ifc (tgt := 20) rfl rfl (fun _ => ?_) (fun c => absurd (by decide) c)
    iterate 4 refine gG.step rfl (fun _ => rfl) ?_
    obtain ⟨e, hee⟩ : ∃ e, e = nv (s 10) - 1 := ⟨_, rfl⟩
    have he6 : e < 6 := by omega
    have heI : e < nv ((upd s 0 0) 10) := show e < nv (s 10) by omega
    have e1 : s 10 - 1 = nI e := by
      rw [hE.1, show (1 : Int32) = nI 1 from rfl, pk_sub (by omega), ← hee]
    rw [← hee] at k
    obtain ⟨hn, hmaps⟩ := hI.2 e heI
    have hn8 := hn.2
    have key : ∀ (r i : Nat) (x4 x5 x6 : Option Value), i + r = nv (t 3 e) → gG tb_T (gD (d + 4)) (some .int) cd_548 24 [some (.ref b), some (.int (nI x)), some (.int (mDM t e (x - 1) i)), some (.int (nI i)), x4, x5, x6] [] h Q := by
      intro r
      induction r with
      | zero =>
        intro i x4 x5 x6 hi
        have hi : i = nv (t 3 e) := by omega
        subst hi
        iterate 2 refine gG.step rfl (fun _ => rfl) ?_
        refine mGet hM rfl rfl ?_
        refine gG.step rfl (fun _ => rfl) ?_
        refine mGet hM rfl rfl ?_
        iterate 2 refine gG.step rfl (fun _ => rfl) ?_
        refine mAld (j := 3) (n := e) hM rfl (by decide) (by decide) e1 (show e < 7 by omega) ?_
        show gG _ _ _ _ 36 _ [Value.int (t 3 e), Value.int (nI (nv (t 3 e)))] h Q
        rw [← hn.1]
        refine gG.icmp (tgt := 123) rfl rfl (fun _ => ?_) (fun c => absurd (decide_eq_true (Int32.le_refl _)) c)
        refine gG.step rfl (fun _ => rfl) ?_
        exact gG.done rfl (fun _ => rfl) (k)
      | succ r ih =>
        intro i x4 x5 x6 hi
        iterate 2 refine gG.step rfl (fun _ => rfl) ?_
        refine mGet hM rfl rfl ?_
        refine gG.step rfl (fun _ => rfl) ?_
        refine mGet hM rfl rfl ?_
        iterate 2 refine gG.step rfl (fun _ => rfl) ?_
        refine mAld (j := 3) (n := e) hM rfl (by decide) (by decide) e1 (show e < 7 by omega) ?_
        show gG _ _ _ _ 36 _ [Value.int (t 3 e), Value.int (nI i)] h Q
        rw [hn.1]
        refine gG.icmp (tgt := 123) rfl rfl (fun z => absurd ((c_ge (by omega) (by omega)).mp z) (by omega)) (fun _ => ?_)
        iterate 2 refine gG.step rfl (fun _ => rfl) ?_
        refine mGet hM rfl rfl ?_
        iterate 5 refine gG.step rfl (fun _ => rfl) ?_
        have e2 : (8 : Int32) * (s 10 - 1) + nI i = nI (8 * e + i) := by rw [e1, show (8 : Int32) = nI 8 from rfl, pk_mul, nI_add]
        show gG _ _ _ _ 50 _ [Value.int ((8 : Int32) * (s 10 - 1) + nI i)] h Q
        rw [e2]
        refine gG.step (L' := [some (.ref b), some (.int (nI x)), some (.int (mDM t e (x - 1) i)), some (.int (nI i)), some (.int (nI (8 * e + i))), x5, x6]) rfl (fun _ => rfl) ?_
        have hm48 : 8 * e + i < 48 := by omega
        have hmi := hmaps i (by omega)
        iterate 5 refine gG.step rfl (fun _ => rfl) ?_
        refine mGet hM rfl rfl ?_
        refine gG.step rfl (fun _ => rfl) ?_
        refine mAld (j := 4) (n := 8 * e + i) hM rfl (by decide) (by decide) rfl (show 8 * e + i < 48 from hm48) ?_
        have e3 : nI x - 1 = nI (x - 1) := by rw [show (1 : Int32) = nI 1 from rfl, pk_sub hx1]
        show gG _ _ _ _ 63 _ [Value.int (t 4 (8 * e + i)), Value.int (nI x - 1), Value.ref b] h Q
        rw [e3]
        refine mVir hM rfl rfl rfl (Nat.le_of_ble_eq_true rfl) rfl rfl (Nat.le_of_ble_eq_true rfl) ?_
        refine m_518' (d + 3) hM (by omega) (hI.2 (x - 1) (show x - 1 < nv (s 10) by omega)).1 _ ?_
        show gG _ _ _ _ 66 _ [Value.int (oI (mMapO t (x - 1) (t 4 (8 * e + i))))] h Q
        have ho : ∀ q, mMapO t (x - 1) (t 4 (8 * e + i)) = some q → q < 48 ∧ ps (t 7 q) 30 := by
          intro q hq
          obtain ⟨g1, g2, -⟩ := mMapO_some hI (show x - 1 < nv (s 10) by omega) hq
          exact ⟨g1, g2.2.2.2.1⟩
        have ih1 := ih (i + 1) (some (.int (nI (8 * e + i)))) (some (.int (oI (mMapO t (x - 1) (t 4 (8 * e + i)))))) (some (.int (nI (nv (t 7 (8 * e + i)))))) (by omega)
        rw [← nI_1 i, mDM] at ih1
        generalize mMapO t (x - 1) (t 4 (8 * e + i)) = o at ho ih1 ⊢
        generalize mDM t e (x - 1) i = c0 at ih1 ⊢
        refine gG.step (L' := [some (.ref b), some (.int (nI x)), some (.int c0), some (.int (nI i)), some (.int (nI (8 * e + i))), some (.int (oI o)), x6]) rfl (fun _ => rfl) ?_
        generalize 8 * e + i = m at hm48 hmi ih1 ⊢
        obtain ⟨-, -, -, hf7, -⟩ := hmi
        have hf30 := hf7.2
        refine gG.step rfl (fun _ => rfl) ?_
        refine gG.step (L' := [some (.ref b), some (.int (nI x)), some (.int c0), some (.int (nI i)), some (.int (nI m)), some (.int (oI o)), some (.int (nI 0))]) rfl (fun _ => rfl) ?_
        have key2 : ∀ r2 j : Nat, j + r2 = nv (t 7 m) → gG tb_T (gD (d + 4)) (some .int) cd_548 71 [some (.ref b), some (.int (nI x)), some (.int (mDF t m o c0 j)), some (.int (nI i)), some (.int (nI m)), some (.int (oI o)), some (.int (nI j))] [] h Q := by
          intro r2
          induction r2 with
          | zero =>
            intro j hj
            have hj : j = nv (t 7 m) := by omega
            subst hj
            iterate 2 refine gG.step rfl (fun _ => rfl) ?_
            refine mGet hM rfl rfl ?_
            refine gG.step rfl (fun _ => rfl) ?_
            refine mAld (j := 7) (n := m) hM rfl (by decide) (by decide) rfl (show m < 48 from hm48) ?_
            show gG _ _ _ _ 80 _ [Value.int (t 7 m), Value.int (nI (nv (t 7 m)))] h Q
            rw [← hf7.1]
            refine gG.icmp (tgt := 117) rfl rfl (fun _ => ?_) (fun c => absurd (decide_eq_true (Int32.le_refl _)) c)
            refine gG.step rfl (fun _ => rfl) ?_
            refine gG.goto (tgt := 24) rfl rfl ?_
            rw [← hf7.1] at ih1
            exact ih1
          | succ r2 ih2 =>
            intro j hj
            iterate 2 refine gG.step rfl (fun _ => rfl) ?_
            refine mGet hM rfl rfl ?_
            refine gG.step rfl (fun _ => rfl) ?_
            refine mAld (j := 7) (n := m) hM rfl (by decide) (by decide) rfl (show m < 48 from hm48) ?_
            show gG _ _ _ _ 80 _ [Value.int (t 7 m), Value.int (nI j)] h Q
            rw [hf7.1]
            refine gG.icmp (tgt := 117) rfl rfl (fun z => absurd ((c_ge (by omega) (by omega)).mp z) (by omega)) (fun _ => ?_)
            iterate 4 refine gG.step rfl (fun _ => rfl) ?_
            refine mVir hM rfl rfl rfl (Nat.le_of_ble_eq_true rfl) rfl rfl (Nat.le_of_ble_eq_true rfl) ?_
            refine m_519 (d + 3) hM hm48 (by omega) (show 0 < 14 by decide) _ ?_
            show gG _ _ _ _ 92 _ [Value.int (t 8 (fI m j 0))] h Q
            have ih3 := ih2 (j + 1) (by omega)
            rw [← nI_1 j, mDF] at ih3
            refine gG.ifc (tgt := 111) rfl rfl (fun c => ?_) (fun c => ?_)
            · rw [if_neg (fun z => absurd z.1 (Int32.not_lt.mpr (of_decide_eq_true c)))] at ih3
              refine gG.step rfl (fun _ => rfl) ?_
              refine gG.goto (tgt := 71) rfl rfl ?_
              exact ih3
            · have hc : 0 < t 8 (fI m j 0) := Int32.not_le.mp (fun z => c (decide_eq_true z))
              iterate 4 refine gG.step rfl (fun _ => rfl) ?_
              refine mVir hM rfl rfl rfl (Nat.le_of_ble_eq_true rfl) rfl rfl (Nat.le_of_ble_eq_true rfl) ?_
              refine m_547 d hM hm48 (by omega) ho _ ?_
              show gG _ _ _ _ 105 _ [Value.int (bI (mLike t m j o))] h Q
              cases hl : mLike t m j o with
              | true =>
                rw [if_neg (fun z => by rw [hl] at z; cases z.2)] at ih3
                refine gG.ifc (tgt := 111) rfl rfl (fun _ => ?_) (fun c => absurd (by decide) c)
                refine gG.step rfl (fun _ => rfl) ?_
                refine gG.goto (tgt := 71) rfl rfl ?_
                exact ih3
              | false =>
                rw [if_pos ⟨hc, hl⟩] at ih3
                refine gG.ifc (tgt := 111) rfl rfl (fun c => absurd c (by decide)) (fun _ => ?_)
                iterate 2 refine gG.step rfl (fun _ => rfl) ?_
                refine gG.goto (tgt := 71) rfl rfl ?_
                exact ih3
        exact key2 (nv (t 7 m)) 0 (by omega)
    exact key (nv (t 3 e)) 0 none none none (by omega)
  · rw [if_neg he] at k
    rw [decide_eq_false he]
    refine gG.ifc (tgt := 20) rfl rfl (fun c => absurd c (by decide)) (fun _ => ?_)
    refine gG.step rfl (fun _ => rfl) ?_
    exact gG.done rfl (fun _ => rfl) (k)
