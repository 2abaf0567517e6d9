/-- what a scan leaves, by the reference's cut -/
def ScR (s : Nat → Int32) (t : Nat → Nat → Int32) (p q : Nat) (b1 b2 w f q2 : Int32) (g : Nat → Int32) : Prop :=
  ((mCut s t p q).1 = 0 ∧ b1 = 1) ∨ (b1 = 0 ∧ b2 = 0 ∧ (mCut s t p q).1 = -1) ∨
  (b1 = 0 ∧ b2 = 1 ∧ w = (mCut s t p q).1 ∧ ¬ (mCut s t p q).1 ≤ 0 ∧ (∀ j, j < nv (mDue w) → g j = (mCut s t p q).2.2 9 j) ∧ (w = 73 → f = (mCut s t p q).2.1 17 ∧ q2 = (mCut s t p q).2.1 18))
theorem mDue_ps {w : Int32} (h : ¬ mDue w = -1) : ps (mDue w) 5 ∧ ¬ w ≤ 0 := by
  unfold mDue at h ⊢
  by_cases h1 : w = 77 ∨ w = 80
  · rw [if_pos h1]
    refine ⟨ps.nI (a := 3) (by decide) (by decide), ?_⟩
    rcases h1 with rfl | rfl <;> decide
  rw [if_neg h1] at h ⊢
  by_cases h2 : w = 70
  · rw [if_pos h2]
    subst h2
    exact ⟨ps.nI (a := 5) (by decide) (by decide), by decide⟩
  rw [if_neg h2] at h ⊢
  by_cases h3 : w = 79 ∨ w = 71 ∨ w = 86
  · rw [if_pos h3]
    refine ⟨ps.nI (a := 1) (by decide) (by decide), ?_⟩
    rcases h3 with rfl | rfl | rfl <;> decide
  rw [if_neg h3] at h ⊢
  by_cases h4 : w = 67
  · rw [if_pos h4]
    subst h4
    exact ⟨ps.nI (a := 0) (by decide) (by decide), by decide⟩
  rw [if_neg h4] at h
  exact absurd rfl h
theorem c_321 (d : Nat) {h0 h : im_H} {s : Nat → Int32} {t : Nat → Nat → Int32} {p q : Nat} {b1 b2 w c f q2 : Int32} {g : Nat → Int32} (hI : LC h0 h [.ref 7, .int b1, .int b2, .int w, .int c, .int f, .int q2] g) (h1 : h0[1]? = some (.inl (1, 3000, .inl (t 1)))) (hpq : p ≤ q) (hq : q ≤ 3000) (Q : Option Value → im_H → Prop)
    (k : ∀ h' b1 b2 w c f q2 g, LC h0 h' [.ref 7, .int b1, .int b2, .int w, .int c, .int f, .int q2] g → ScR s t p q b1 b2 w f q2 g → Q none h') : gC (gD (d + 4)) 321 [.ref 6, .ref 1, .int (nI p), .int (nI q)] h Q := by
  refine gC.of (q := me_321.2) rfl (Nat.le_of_ble_eq_true rfl) rfl ?_
  iterate 3 refine gG.step (cd := cd_321) rfl (fun _ => rfl) ?_
  refine gG.inv rfl (fun _ => rfl) (Nat.le_of_ble_eq_true rfl) rfl rfl (Nat.le_of_ble_eq_true rfl) ?_
  refine c_323 (d + 2) (by rw [hI.t1]; exact h1) hpq hq ?_
  obtain ⟨p0, hp0⟩ : ∃ p0, p0 = mSk (t 1) (q - p) p := ⟨_, rfl⟩
  have hsk := mSk_ge (t 1) (q - p) p
  rw [← hp0] at hsk ⊢
  show gG _ _ _ _ 6 _ [Value.int (nI p0)] h Q
  refine gG.step (L' := [some (.ref 6), some (.ref 1), some (.int (nI p)), some (.int (nI q)), some (.int (nI p0))]) rfl (fun _ => rfl) ?_
  iterate 2 refine gG.step rfl (fun _ => rfl) ?_
  refine lPut hI rfl (Nat.le_of_ble_eq_true rfl) rfl rfl rfl (fun h hI => ?_)
  iterate 3 refine gG.step rfl (fun _ => rfl) ?_
  -- it says nothing
  have nothing : ∀ h : im_H, (p0 = q ∨ t 1 p0 = 42) → LC h0 h [.ref 7, .int b1, .int b2, .int w, .int 0, .int f, .int q2] g → gG tb_T (gD (d + 3)) none cd_321 34 [some (.ref 6), some (.ref 1), some (.int (nI p)), some (.int (nI q)), some (.int (nI p0))] [.int 1, .ref 6] h Q := by
    intro h hz hI
    refine lPut hI rfl (Nat.le_of_ble_eq_true rfl) rfl rfl rfl (fun h hI => ?_)
    refine gG.step rfl (fun _ => rfl) ?_
    refine gG.get rfl (hI.2.1) rfl ?_
    refine gG.ifc (tgt := 45) rfl rfl (fun c => absurd c (by decide)) (fun _ => ?_)
    refine gG.done rfl (fun _ => rfl) (k h _ _ _ _ _ _ _ hI (Or.inl ⟨?_, rfl⟩))
    unfold mCut
    dsimp only
    rw [← hp0, if_pos hz]
  by_cases hpe : p0 = q
  · refine gG.icmp (tgt := 29) rfl rfl (fun _ => ?_) (fun c => absurd ((c_ge (by omega) (by omega)).mpr (by omega)) c)
    refine gG.step rfl (fun _ => rfl) ?_
    refine gG.goto (tgt := 34) rfl rfl ?_
    exact nothing h (Or.inl hpe) hI
  · have hlt : p0 < q := by omega
    refine gG.icmp (tgt := 29) rfl rfl (fun c => absurd ((c_ge (by omega) (by omega)).mp c) (by omega)) (fun _ => ?_)
    iterate 2 refine gG.step rfl (fun _ => rfl) ?_
    refine gG.bald (j := p0) rfl (by rw [hI.t1]; exact h1) rfl (by omega) (by decide) ?_
    refine gG.step rfl (fun _ => rfl) ?_
    refine gG.icmp (tgt := 33) rfl rfl (fun c => ?_) (fun c => ?_)
    case refine_2 =>
      have h42 : t 1 p0 = 42 := Decidable.not_not.mp (fun z => c (c_ne.mpr z))
      refine gG.step rfl (fun _ => rfl) ?_
      refine gG.goto (tgt := 34) rfl rfl ?_
      exact nothing h (Or.inr h42) hI
    case refine_1 =>
    have h42 : ¬ t 1 p0 = 42 := c_ne.mp c
    have hno : ¬ (p0 = q ∨ t 1 p0 = 42) := fun z => z.elim hpe h42
    refine gG.step rfl (fun _ => rfl) ?_
    refine lPut hI rfl (Nat.le_of_ble_eq_true rfl) rfl rfl rfl (fun h hI => ?_)
    refine gG.step rfl (fun _ => rfl) ?_
    refine gG.get rfl (hI.2.1) rfl ?_
    refine gG.ifc (tgt := 45) rfl rfl (fun _ => ?_) (fun c => absurd (by decide) c)
    iterate 3 refine gG.step rfl (fun _ => rfl) ?_
    refine gG.bald (j := p0) rfl (by rw [hI.t1]; exact h1) rfl (by omega) (by decide) ?_
    refine lPut hI rfl (Nat.le_of_ble_eq_true rfl) rfl rfl rfl (fun h hI => ?_)
    refine gG.step rfl (fun _ => rfl) ?_
    refine gG.get rfl (hI.2.1) rfl ?_
    refine gG.step rfl (fun _ => rfl) ?_
    refine gG.icmp (tgt := 79) rfl rfl (fun c => ?_) (fun c => ?_)
    case refine_2 =>
      have h73 : t 1 p0 = 73 := Decidable.not_not.mp (fun z => c (c_ne.mpr z))
      have hcut : mCut s t p q = ((if p0 + 1 < q ∧ t 1 (p0 + 1) = 32 ∧ p0 + 2 < q then 73 else -1), upd (upd (upd s 16 0) 17 (nI (p0 + 2))) 18 (nI q), t) := by
        unfold mCut
        dsimp only
        rw [← hp0, if_neg hno, if_pos h73]
      iterate 4 refine gG.step rfl (fun _ => rfl) ?_
      iterate 3 refine gG.step rfl (fun _ => rfl) ?_
      show gG _ _ _ _ 70 _ [Value.int (nI q), Value.int (nI p0 + 1), Value.ref 1, Value.ref 6, Value.ref 6] h Q
      rw [nI_1]
      refine gG.vir rfl (hI.2.1) rfl rfl (Nat.le_of_ble_eq_true rfl) rfl rfl (Nat.le_of_ble_eq_true rfl) ?_
      refine c_324 (d + 2) hI h1 hq (fun h hI => ?_) (by omega)
      show gG _ _ _ _ 73 _ [Value.int (bI (decide (p0 + 1 + 1 < q ∧ t 1 (p0 + 1) = 32))), Value.ref 6] h Q
      by_cases hc : p0 + 1 + 1 < q ∧ t 1 (p0 + 1) = 32
      · rw [decide_eq_true hc]
        rw [if_pos ⟨by omega, hc.2, by omega⟩] at hcut
        refine lPut hI rfl (Nat.le_of_ble_eq_true rfl) rfl rfl rfl (fun h hI => ?_)
        refine gG.goto (tgt := 112) rfl rfl ?_
        refine gG.done rfl (fun _ => rfl) (k h _ _ _ _ _ _ _ hI (Or.inr (Or.inr ⟨rfl, rfl, ?_, ?_, ?_, ?_⟩)))
        · rw [hcut]; exact h73
        · rw [hcut]; exact (by decide : ¬ (73 : Int32) ≤ 0)
        · intro j hj
          rw [h73] at hj
          exact absurd (show j < 0 from hj) (Nat.not_lt_zero _)
        · intro _
          rw [hcut]
          exact ⟨rfl, rfl⟩
      · rw [decide_eq_false hc]
        rw [if_neg (fun z => hc ⟨by omega, z.2.1⟩)] at hcut
        refine lPut hI rfl (Nat.le_of_ble_eq_true rfl) rfl rfl rfl (fun h hI => ?_)
        refine gG.goto (tgt := 112) rfl rfl ?_
        refine gG.done rfl (fun _ => rfl) (k h _ _ _ _ _ _ _ hI (Or.inr (Or.inl ⟨rfl, rfl, ?_⟩)))
        rw [hcut]
    case refine_1 =>
    have h73 : ¬ t 1 p0 = 73 := c_ne.mp c
    obtain ⟨z, hz⟩ : ∃ z, z = mNs (t 1) q (q - p0) (p0 + 1) 0 (t 9) := ⟨_, rfl⟩
    have hcut : mCut s t p q = ((if z.1 = true ∧ nI z.2.1 = mDue (t 1 p0) then t 1 p0 else -1), upd s 16 (nI z.2.1), va_up t 9 z.2.2) := by
      unfold mCut
      dsimp only
      rw [← hp0, if_neg hno, if_neg h73, ← hz]
    have hz6 : z.2.1 ≤ 6 := by rw [hz]; exact mNs_n _ _ _ _ _ _ (by decide)
    iterate 4 refine gG.step rfl (fun _ => rfl) ?_
    iterate 3 refine gG.step rfl (fun _ => rfl) ?_
    show gG _ _ _ _ 87 _ [Value.int (nI q), Value.int (nI p0 + 1), Value.ref 1, Value.ref 6, Value.ref 6] h Q
    rw [nI_1]
    refine gG.vir rfl (hI.2.1) rfl rfl (Nat.le_of_ble_eq_true rfl) rfl rfl (Nat.le_of_ble_eq_true rfl) ?_
    refine c_325 d (g := g) hI h1 (by omega) hq (fun h hI => ?_)
    have heq := cSc_eq (x := t 1) (q := q) (q - (p0 + 1)) (q - p0) (p0 + 1) 0 3 (t 9) g (Nat.le_refl _) (by omega) (by omega) (by decide) (fun j hj => absurd hj (Nat.not_lt_zero _)) (fun _ => Or.inl (Nat.le_refl _))
    rw [← hz] at heq
    generalize cSc (t 1) (q - (p0 + 1)) (p0 + 1) 3 0 g = y at heq hI ⊢
    obtain ⟨ok, n, g2⟩ := y
    dsimp only at heq hI ⊢
    obtain ⟨he1, he2⟩ := heq
    show gG _ _ _ _ 90 _ [Value.int (bI ok), Value.ref 6] h Q
    -- it isn't well formed
    have bad : ∀ h : im_H, ¬ (z.1 = true ∧ nI z.2.1 = mDue (t 1 p0)) → LC h0 h [.ref 7, .int 0, .int b2, .int (t 1 p0), .int (nI n), .int f, .int q2] g2 → gG tb_T (gD (d + 3)) none cd_321 108 [some (.ref 6), some (.ref 1), some (.int (nI p)), some (.int (nI q)), some (.int (nI p0))] [.ref 6] h Q := by
      intro h hn hI
      rw [if_neg hn] at hcut
      refine gG.step rfl (fun _ => rfl) ?_
      refine lPut hI rfl (Nat.le_of_ble_eq_true rfl) rfl rfl rfl (fun h hI => ?_)
      refine gG.done rfl (fun _ => rfl) (k h _ _ _ _ _ _ _ hI (Or.inr (Or.inl ⟨rfl, rfl, ?_⟩)))
      rw [hcut]
    -- a right number of numbers is at most five
    have due5 : nI z.2.1 = mDue (t 1 p0) → z.2.1 ≤ 5 ∧ ¬ t 1 p0 ≤ 0 := by
      intro e
      have hm1 : ¬ mDue (t 1 p0) = -1 := by
        intro y
        rw [y] at e
        have := nI_pos' (n := z.2.1) (by omega)
        rw [e] at this
        exact absurd this (by decide)
      obtain ⟨d1, d2⟩ := mDue_ps hm1
      rw [← e] at d1
      have := d1.2
      rw [nv_nI (by omega)] at this
      exact ⟨this, d2⟩
    cases ok with
    | false =>
      refine gG.ifc (tgt := 108) rfl rfl (fun _ => ?_) (fun c => absurd (by decide) c)
      refine bad h (fun y => ?_) hI
      have := he1.mp ⟨y.1, (due5 y.2).1⟩
      cases this
    | true =>
      refine gG.ifc (tgt := 108) rfl rfl (fun c => absurd c (by decide)) (fun _ => ?_)
      obtain ⟨hz1, hz5⟩ := he1.mpr rfl
      obtain ⟨hn, hg⟩ := he2 rfl
      refine gG.step rfl (fun _ => rfl) ?_
      refine gG.get rfl (hI.2.1) rfl ?_
      refine gG.step rfl (fun _ => rfl) ?_
      refine gG.vir rfl (hI.2.1) rfl rfl (Nat.le_of_ble_eq_true rfl) rfl rfl (Nat.le_of_ble_eq_true rfl) ?_
      refine c_327 (d + 2) hI ?_
      show gG _ _ _ _ 101 _ [Value.int (mDue (t 1 p0)), Value.int (nI n), Value.ref 6] h Q
      rw [hn]
      rw [hn] at hI
      by_cases hd : nI z.2.1 = mDue (t 1 p0)
      · refine gG.icmp (tgt := 108) rfl rfl (fun c => absurd hd (c_ne.mp c)) (fun _ => ?_)
        rw [if_pos ⟨hz1, hd⟩] at hcut
        refine gG.step rfl (fun _ => rfl) ?_
        refine gG.goto (tgt := 109) rfl rfl ?_
        refine lPut hI rfl (Nat.le_of_ble_eq_true rfl) rfl rfl rfl (fun h hI => ?_)
        refine gG.done rfl (fun _ => rfl) (k h _ _ _ _ _ _ _ hI (Or.inr (Or.inr ⟨rfl, rfl, ?_, ?_, ?_, ?_⟩)))
        · rw [hcut]
        · rw [hcut]; exact (due5 hd).2
        · intro j hj
          rw [hcut]
          dsimp only
          rw [va_up_self]
          rw [← hd, nv_nI (by omega)] at hj
          exact hg j hj
        · intro y
          exact absurd y h73
      · refine gG.icmp (tgt := 108) rfl rfl (fun _ => ?_) (fun c => absurd (c_ne.mpr hd) c)
        rw [hn] at bad
        exact bad h (fun y => hd y.2) hI
