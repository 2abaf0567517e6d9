def mS1 (q : (Nat → Int32) × (Nat → Nat → Int32)) (x : Int32) : (Nat → Int32) × (Nat → Nat → Int32) := if (x = 10 ∨ (32 ≤ x ∧ x ≤ 126)) ∧ q.1 2 < 3000 then (upd q.1 2 (q.1 2 + 1), va_up q.2 1 (upd (q.2 1) (nv (q.1 2)) x)) else q
def mSh (c k : Int32) : Int32 := (c.toUInt32 >>> (k.toUInt32 &&& Int32.toUInt32 31)).toInt32 &&& 255
def mSign (s : Nat → Int32) (t : Nat → Nat → Int32) (c : Int32) : (Nat → Int32) × (Nat → Nat → Int32) := mS1 (mS1 (mS1 (mS1 (upd s 0 0, t) (mSh c 24)) (mSh c 16)) (mSh c 8)) (mSh c 0)
theorem mS1_ps {q : (Nat → Int32) × (Nat → Nat → Int32)} {x : Int32} (h : ps (q.1 2) 3000) : ps ((mS1 q x).1 2) 3000 := by
  unfold mS1
  split
  · rename_i hc
    show ps (q.1 2 + 1) 3000
    have h1 := hc.2
    rw [h.1] at h1 ⊢
    rw [show (3000 : Int32) = nI 3000 from rfl, nI_ltI (by have := h.2; omega) (by decide)] at h1
    rw [nI_1]
    exact ps.nI (by omega) (by decide)
  · exact h
theorem m_515 (d : Nat) {b : Nat} {h0 h : im_H} {s : Nat → Int32} {t : Nat → Nat → Int32} (hM : MM b h0 h s t) (hp : ps (s 2) 3000) {c : Int32} (Q : Option Value → im_H → Prop) (k : ∀ h', MM b h0 h' (mSign s t c).1 (mSign s t c).2 → Q none h') : gC (gD (d + 2)) 515 [.ref b, .int c] h Q := by
  refine gC.of (q := me_515.2) rfl (Nat.le_of_ble_eq_true rfl) rfl ?_
  iterate 2 refine gG.step (cd := cd_515) rfl (fun _ => rfl) ?_
  refine mPut hM rfl (by decide) rfl rfl rfl (fun h hM => ?_)
  have one : ∀ (kk : Int32) (h : im_H) (x3 : Option Value) (q : (Nat → Int32) × (Nat → Nat → Int32)), 0 ≤ kk → ps (q.1 2) 3000 → MM b h0 h q.1 q.2 → (∀ (h : im_H) (x3 : Option Value), MM b h0 h (mS1 q (mSh c kk)).1 (mS1 q (mSh c kk)).2 → gG tb_T (gD (d + 1)) none cd_515 8 [some (.ref b), some (.int c), some (.int (kk + Int32.ofInt (-8))), x3] [] h Q) → gG tb_T (gD (d + 1)) none cd_515 8 [some (.ref b), some (.int c), some (.int kk), x3] [] h Q := by
    intro kk h x3 q hk hp hM nx
    refine gG.step rfl (fun _ => rfl) ?_
    refine gG.ifc (tgt := 73) rfl rfl (fun c => absurd (of_decide_eq_true c) (Int32.not_lt.mpr hk)) (fun _ => ?_)
    iterate 5 refine gG.step rfl (fun _ => rfl) ?_
    refine gG.step (L' := [some (.ref b), some (.int c), some (.int kk), some (.int (mSh c kk))]) rfl (fun _ => rfl) ?_
    iterate 2 refine gG.step rfl (fun _ => rfl) ?_
    have skip : ¬ ((mSh c kk = 10 ∨ (32 ≤ mSh c kk ∧ mSh c kk ≤ 126)) ∧ q.1 2 < 3000) → gG tb_T (gD (d + 1)) none cd_515 67 [some (.ref b), some (.int c), some (.int kk), some (.int (mSh c kk))] [] h Q := by
      intro hne
      have e : mS1 q (mSh c kk) = q := by unfold mS1; rw [if_neg hne]
      rw [e] at nx
      refine gG.step rfl (fun _ => rfl) ?_
      refine gG.goto (tgt := 8) rfl rfl ?_
      exact nx h _ hM
    have put : (mSh c kk = 10 ∨ (32 ≤ mSh c kk ∧ mSh c kk ≤ 126)) → gG tb_T (gD (d + 1)) none cd_515 37 [some (.ref b), some (.int c), some (.int kk), some (.int (mSh c kk))] [] h Q := by
      intro hs
      refine gG.step rfl (fun _ => rfl) ?_
      refine mGet hM rfl rfl ?_
      refine gG.step rfl (fun _ => rfl) ?_
      refine gG.icmp (tgt := 67) rfl rfl (fun c1 => ?_) (fun c1 => ?_)
      · exact skip (fun z => absurd z.2 (Int32.not_lt.mpr (of_decide_eq_true c1)))
      · have hlt : q.1 2 < 3000 := Int32.not_le.mp (fun z => c1 (decide_eq_true z))
        have e : mS1 q (mSh c kk) = (upd q.1 2 (q.1 2 + 1), va_up q.2 1 (upd (q.2 1) (nv (q.1 2)) (mSh c kk))) := by unfold mS1; rw [if_pos ⟨hs, hlt⟩]
        rw [e] at nx
        have hlt2 := hlt
        rw [hp.1, show (3000 : Int32) = nI 3000 from rfl, nI_ltI (by have := hp.2; omega) (by decide)] at hlt2
        refine gG.step rfl (fun _ => rfl) ?_
        refine mGet hM rfl rfl ?_
        refine gG.step rfl (fun _ => rfl) ?_
        refine mGet hM rfl rfl ?_
        refine gG.step rfl (fun _ => rfl) ?_
        refine mAst (j := 1) (n := nv (q.1 2)) hM rfl (by decide) (by decide) hp.1 (show _ < 3000 from hlt2) (fun h hM => ?_)
        iterate 2 refine gG.step rfl (fun _ => rfl) ?_
        refine mGet hM rfl rfl ?_
        iterate 2 refine gG.step rfl (fun _ => rfl) ?_
        refine mPut hM rfl (by decide) rfl rfl rfl (fun h hM => ?_)
        refine gG.step rfl (fun _ => rfl) ?_
        refine gG.goto (tgt := 8) rfl rfl ?_
        exact nx h _ hM
    refine gG.icmp (tgt := 37) rfl rfl (fun c1 => put (Or.inl (c_ee.mp c1))) (fun c1 => ?_)
    iterate 3 refine gG.step rfl (fun _ => rfl) ?_
    refine gG.inv rfl (fun _ => rfl) (Nat.le_of_ble_eq_true rfl) rfl rfl (Nat.le_of_ble_eq_true rfl) ?_
    refine m_514 d _ _ _ _ _ ?_
    show gG _ _ _ _ 34 _ [Value.int (bI (decide (32 ≤ mSh c kk ∧ mSh c kk ≤ 126)))] h Q
    by_cases hw : 32 ≤ mSh c kk ∧ mSh c kk ≤ 126
    · rw [decide_eq_true hw]
      refine gG.ifc (tgt := 67) rfl rfl (fun c => absurd c (by decide)) (fun _ => ?_)
      exact put (Or.inr hw)
    · rw [decide_eq_false hw]
      refine gG.ifc (tgt := 67) rfl rfl (fun _ => ?_) (fun c => absurd (by decide) c)
      refine skip (fun z => ?_)
      rcases z.1 with z1 | z1
      · exact c1 (c_ee.mpr z1)
      · exact hw z1
  iterate 2 refine gG.step rfl (fun _ => rfl) ?_
  refine one 24 h none (upd s 0 0, t) (by decide) hp hM (fun h x3 hM => ?_)
  refine one 16 h x3 _ (by decide) (mS1_ps hp) hM (fun h x3 hM => ?_)
  refine one 8 h x3 _ (by decide) (mS1_ps (mS1_ps hp)) hM (fun h x3 hM => ?_)
  refine one 0 h x3 _ (by decide) (mS1_ps (mS1_ps (mS1_ps hp))) hM (fun h x3 hM => ?_)
  refine gG.step rfl (fun _ => rfl) ?_
  refine gG.ifc (tgt := 73) rfl rfl (fun _ => ?_) (fun c => absurd (by decide) c)
  exact gG.done rfl (fun _ => rfl) (k h hM)
def mDue (w : Int32) : Int32 := if w = 77 ∨ w = 80 then 3 else if w = 70 then 5 else if w = 79 ∨ w = 71 ∨ w = 86 then 1 else if w = 67 then 0 else -1
theorem m_517 (d : Nat) (w : Int32) (h : im_H) (Q : Option Value → im_H → Prop) (k : Q (some (.int (mDue w))) h) : gC (gD (d + 1)) 517 [.int w] h Q := by
  refine gC.of (q := me_517.2) rfl (Nat.le_of_ble_eq_true rfl) rfl ?_
  refine gG.step (cd := cd_517) rfl (fun _ => rfl) ?_
  by_cases hr : w.toInt < 67 ∨ 86 < w.toInt
  · refine gG.tswOut (tgt := 104) rfl hr rfl ?_
    refine gG.step rfl (fun _ => rfl) ?_
    have e : mDue w = -1 := by
      have hn : ∀ n : Int32, (67 ≤ n.toInt ∧ n.toInt ≤ 86) → ¬ w = n := by
        intro n hn hw
        subst hw
        omega
      unfold mDue
      rw [if_neg (fun z => z.elim (hn 77 (by decide)) (hn 80 (by decide))), if_neg (hn 70 (by decide)), if_neg (fun z => z.elim (hn 79 (by decide)) (fun z => z.elim (hn 71 (by decide)) (hn 86 (by decide)))), if_neg (hn 67 (by decide))]
    rw [e] at k
    exact gG.done rfl (fun _ => rfl) (k)
  · obtain ⟨j, hj, rfl⟩ : ∃ j : Nat, j < 20 ∧ w = nI (67 + j) := by
      refine ⟨(w.toInt - 67).toNat, by omega, ?_⟩
      rw [← Int32.toInt_inj, nI_toInt (by omega)]
      omega
    rcases (show j = 0 ∨ j = 1 ∨ j = 2 ∨ j = 3 ∨ j = 4 ∨ j = 5 ∨ j = 6 ∨ j = 7 ∨ j = 8 ∨ j = 9 ∨ j = 10 ∨ j = 11 ∨ j = 12 ∨ j = 13 ∨ j = 14 ∨ j = 15 ∨ j = 16 ∨ j = 17 ∨ j = 18 ∨ j = 19 by omega) with rfl | rfl | rfl | rfl | rfl | rfl | rfl | rfl | rfl | rfl | rfl | rfl | rfl | rfl | rfl | rfl | rfl | rfl | rfl | rfl
    all_goals first
      | (refine gG.tswIn (tgt := 96) rfl (by decide) (by decide) rfl rfl ?_; refine gG.step rfl (fun _ => rfl) ?_; exact gG.done rfl (fun _ => rfl) k)
      | (refine gG.tswIn (tgt := 98) rfl (by decide) (by decide) rfl rfl ?_; refine gG.step rfl (fun _ => rfl) ?_; exact gG.done rfl (fun _ => rfl) k)
      | (refine gG.tswIn (tgt := 100) rfl (by decide) (by decide) rfl rfl ?_; refine gG.step rfl (fun _ => rfl) ?_; exact gG.done rfl (fun _ => rfl) k)
      | (refine gG.tswIn (tgt := 102) rfl (by decide) (by decide) rfl rfl ?_; refine gG.step rfl (fun _ => rfl) ?_; exact gG.done rfl (fun _ => rfl) k)
      | (refine gG.tswIn (tgt := 104) rfl (by decide) (by decide) rfl rfl ?_; refine gG.step rfl (fun _ => rfl) ?_; exact gG.done rfl (fun _ => rfl) k)
