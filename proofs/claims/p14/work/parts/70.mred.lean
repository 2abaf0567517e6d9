/-- where the line from p on ends -/
def mEol (x : Nat → Int32) : Nat → Nat → Nat
  | 0, q => q
  | r + 1, q => if x q = 10 then q else mEol x r (q + 1)
theorem mEol_ge (x : Nat → Int32) : ∀ r q : Nat, q ≤ mEol x r q ∧ mEol x r q ≤ q + r
  | 0, q => ⟨Nat.le_refl _, Nat.le_refl _⟩
  | r + 1, q => by
    rw [mEol]
    split
    · omega
    · have := mEol_ge x r (q + 1)
      omega
/-- the lines from p on -/
def mLp (n : Nat) : Nat → Nat → Nat → (Nat → Int32) → (Nat → Nat → Int32) → Nat × (Nat → Int32) × (Nat → Nat → Int32)
  | 0, _, l, s, t => (l, s, t)
  | r + 1, p, l, s, t => if p < n ∧ s 11 = 0 then
      mLp n r (mEol (t 1) (n - p) p + 1) (l + 1) (upd (mLine s t p (mEol (t 1) (n - p) p)).2.1 11 (mLine s t p (mEol (t 1) (n - p) p)).1) (mLine s t p (mEol (t 1) (n - p) p)).2.2 else (l, s, t)
def mCp (x : Nat → Int32) (o : Nat) (y : Nat → Int32) : Nat → (Nat → Int32)
  | 0 => y
  | k + 1 => upd (mCp x o y k) (o + k) (x k)
/-- behind the lines: an edition, or a fault -/
def mEnd (n : Nat) (z : Nat × (Nat → Int32) × (Nat → Nat → Int32)) : Int32 × (Nat → Int32) × (Nat → Nat → Int32) :=
  if z.2.1 11 ≤ 0 then (z.2.2 3 (nv (z.2.1 10)), upd (upd z.2.1 10 (z.2.1 10 + 1)) 23 0, va_up z.2.2 2 (mCp (z.2.2 1) (3000 * nv (z.2.1 10)) (z.2.2 2) n)) else
  (-1 - nI z.1, upd z.2.1 12 (nI z.1), z.2.2)
def mR0 (s : Nat → Int32) : Nat → Int32 := upd (upd (upd (upd (upd (upd s 0 0) 2 0) 11 0) 12 0) 13 (-1)) 14 (-1)
def mRead (s : Nat → Int32) (t : Nat → Nat → Int32) : Int32 × (Nat → Int32) × (Nat → Nat → Int32) :=
  if s 10 = 6 then (-1, upd (upd s 0 0) 2 0, t) else mEnd (nv (s 2)) (mLp (nv (s 2)) (nv (s 2) + 1) 0 0 (mR0 s) (va_up t 3 (upd (t 3) (nv (s 10)) 0)))
theorem m_534 (d : Nat) {b : Nat} {h0 h : im_H} {s : Nat → Int32} {t : Nat → Nat → Int32} (hM : MM b h0 h s t) (h2 : ps (s 2) 3000) (hE : ps (s 10) 6)
    (J : (Nat → Int32) → (Nat → Nat → Int32) → Prop) (hJ : ∀ s t, J s t → ps (s 10) 5 ∧ ps (t 3 (nv (s 10))) 8 ∧ ∀ m, mLast s t = some m → ps (t 7 m) 30) (hJ2 : ∀ s t p q, J s t → p ≤ q → q ≤ 3000 → J (upd (mLine s t p q).2.1 11 (mLine s t p q).1) (mLine s t p q).2.2)
    (hJ0 : ¬ s 10 = 6 → J (mR0 s) (va_up t 3 (upd (t 3) (nv (s 10)) 0))) (Q : Option Value → im_H → Prop) (k : ∀ h', MM b h0 h' (mRead s t).2.1 (mRead s t).2.2 → Q (some (.int (mRead s t).1)) h') : gC (gD (d + 6)) 534 [.ref b] h Q := by
  refine gC.of (q := me_534.2) rfl (Nat.le_of_ble_eq_true rfl) rfl ?_
  iterate 2 refine gG.step (cd := cd_534) rfl (fun _ => rfl) ?_
  refine mPut hM rfl (by decide) rfl rfl rfl (fun h hM => ?_)
  refine gG.step rfl (fun _ => rfl) ?_
  refine mGet hM rfl rfl ?_
  show gG _ _ _ _ 9 _ [Value.int (s 2)] h Q
  obtain ⟨n, hn⟩ : ∃ n, n = nv (s 2) := ⟨_, rfl⟩
  have hn3 : n ≤ 3000 := by rw [hn]; exact h2.2
  have e2 : s 2 = nI n := by rw [hn]; exact h2.1
  rw [e2]
  refine gG.step (L' := [some (.ref b), some (.int (nI n)), none, none, none]) rfl (fun _ => rfl) ?_
  iterate 2 refine gG.step rfl (fun _ => rfl) ?_
  refine mPut hM rfl (by decide) rfl rfl rfl (fun h hM => ?_)
  refine gG.step rfl (fun _ => rfl) ?_
  refine mGet hM rfl rfl ?_
  show gG _ _ _ _ 19 _ [Value.int (s 10)] h Q
  refine gG.step rfl (fun _ => rfl) ?_
  unfold mRead at k
  rw [← hn] at k
  refine gG.icmp (tgt := 26) rfl rfl (fun c => ?_) (fun c => ?_)
  case refine_2 =>
    rw [if_pos (show s 10 = 6 from Decidable.not_not.mp (fun z => c (c_ne.mpr z)))] at k
    refine gG.step rfl (fun _ => rfl) ?_
    exact gG.done rfl (fun _ => rfl) (k h hM)
  case refine_1 =>
  have hne : ¬ s 10 = 6 := c_ne.mp c
  rw [if_neg hne] at k
  have hJ0 := hJ0 hne
  iterate 2 refine gG.step rfl (fun _ => rfl) ?_
  refine mPut hM rfl (by decide) rfl rfl rfl (fun h hM => ?_)
  iterate 2 refine gG.step rfl (fun _ => rfl) ?_
  refine mPut hM rfl (by decide) rfl rfl rfl (fun h hM => ?_)
  iterate 2 refine gG.step rfl (fun _ => rfl) ?_
  refine mPut hM rfl (by decide) rfl rfl rfl (fun h hM => ?_)
  iterate 2 refine gG.step rfl (fun _ => rfl) ?_
  refine mPut hM rfl (by decide) rfl rfl rfl (fun h hM => ?_)
  refine gG.step rfl (fun _ => rfl) ?_
  refine mGet hM rfl rfl ?_
  refine gG.step rfl (fun _ => rfl) ?_
  refine mGet hM rfl rfl ?_
  refine gG.step rfl (fun _ => rfl) ?_
  refine mAst (j := 3) (n := nv (s 10)) hM rfl (by decide) (by decide) hE.1 (show _ < 7 by have := hE.2; omega) (fun h hM => ?_)
  iterate 4 refine gG.step rfl (fun _ => rfl) ?_
  -- behind the lines
  have fin : ∀ (l p : Nat) (s : Nat → Int32) (t : Nat → Nat → Int32) (h : im_H) (x4 : Option Value), l ≤ 3001 → J s t → MM b h0 h s t → (∀ h', MM b h0 h' (mEnd n (l, s, t)).2.1 (mEnd n (l, s, t)).2.2 → Q (some (.int (mEnd n (l, s, t)).1)) h') → gG tb_T (gD (d + 5)) (some .int) cd_534 121 [some (.ref b), some (.int (nI n)), some (.int (nI l)), some (.int (nI p)), x4] [] h Q := by
    intro l p s t h x4 hl hJs hM k
    unfold mEnd at k
    dsimp only at k
    obtain ⟨hE5, hp8, -⟩ := hJ s t hJs
    have hE5b := hE5.2
    refine gG.step rfl (fun _ => rfl) ?_
    refine mGet hM rfl rfl ?_
    refine gG.ifc (tgt := 137) rfl rfl (fun c => ?_) (fun c => ?_)
    case refine_2 =>
      have hc : ¬ s 11 ≤ 0 := fun z => c (decide_eq_true z)
      rw [if_neg hc] at k
      iterate 2 refine gG.step rfl (fun _ => rfl) ?_
      refine mPut hM rfl (by decide) rfl rfl rfl (fun h hM => ?_)
      iterate 3 refine gG.step rfl (fun _ => rfl) ?_
      exact gG.done rfl (fun _ => rfl) (k h hM)
    case refine_1 =>
    have hc : s 11 ≤ 0 := of_decide_eq_true c
    rw [if_pos hc] at k
    dsimp only at k
    refine gG.step rfl (fun _ => rfl) ?_
    refine gG.step (L' := [some (.ref b), some (.int (nI n)), some (.int (nI l)), some (.int (nI 0)), x4]) rfl (fun _ => rfl) ?_
    have key : ∀ (r i : Nat) (h : im_H), i + r = n → MM b h0 h s (va_up t 2 (mCp (t 1) (3000 * nv (s 10)) (t 2) i)) → gG tb_T (gD (d + 5)) (some .int) cd_534 139 [some (.ref b), some (.int (nI n)), some (.int (nI l)), some (.int (nI i)), x4] [] h Q := by
      intro r
      induction r with
      | zero =>
        intro i h hi hM
        have hi : i = n := by omega
        subst hi
        iterate 2 refine gG.step rfl (fun _ => rfl) ?_
        refine gG.icmp (tgt := 171) rfl rfl (fun _ => ?_) (fun c => absurd ((c_ge (by omega) (by omega)).mpr (by omega)) c)
        iterate 2 refine gG.step rfl (fun _ => rfl) ?_
        refine mGet hM rfl rfl ?_
        iterate 2 refine gG.step rfl (fun _ => rfl) ?_
        refine mPut hM rfl (by decide) rfl rfl rfl (fun h hM => ?_)
        iterate 2 refine gG.step rfl (fun _ => rfl) ?_
        refine mPut hM rfl (by decide) rfl rfl rfl (fun h hM => ?_)
        refine gG.step rfl (fun _ => rfl) ?_
        refine mGet hM rfl rfl ?_
        refine gG.step rfl (fun _ => rfl) ?_
        refine mGet hM rfl rfl ?_
        iterate 2 refine gG.step rfl (fun _ => rfl) ?_
        have e1 : s 10 + 1 - 1 = nI (nv (s 10)) := by
          rw [hE5.1, nv_nI (by omega), nI_1, nI_pred]
        show gG _ _ _ _ 196 _ [Value.int (s 10 + 1 - 1), Value.ref (b + 3)] h Q
        refine mAld (j := 3) (n := nv (s 10)) hM rfl (by decide) (by decide) e1 (show _ < 7 by omega) ?_
        exact gG.done rfl (fun _ => rfl) (k h hM)
      | succ r ih =>
        intro i h hi hM
        iterate 2 refine gG.step rfl (fun _ => rfl) ?_
        refine gG.icmp (tgt := 171) rfl rfl (fun c => absurd ((c_ge (by omega) (by omega)).mp c) (by omega)) (fun _ => ?_)
        refine gG.step rfl (fun _ => rfl) ?_
        refine mGet hM rfl rfl ?_
        iterate 2 refine gG.step rfl (fun _ => rfl) ?_
        refine mGet hM rfl rfl ?_
        iterate 4 refine gG.step rfl (fun _ => rfl) ?_
        refine mGet hM rfl rfl ?_
        refine gG.step rfl (fun _ => rfl) ?_
        refine mAld (j := 1) (n := i) hM rfl (by decide) (by decide) rfl (show i < 3000 by omega) ?_
        have ei : (3000 : Int32) * s 10 + nI i = nI (3000 * nv (s 10) + i) := by
          rw [← nI_add, ← pk_mul, ← hE5.1]
          rfl
        refine mAst (j := 2) (n := 3000 * nv (s 10) + i) hM rfl (by decide) (by decide) ei (show _ < 18000 by omega) (fun h hM => ?_)
        have hM := MM.arr hM (up2 _ _ _ _)
        rw [va_up_self] at hM
        refine gG.step rfl (fun _ => rfl) ?_
        refine gG.goto (tgt := 139) rfl rfl ?_
        have ih1 := ih (i + 1) h (by omega) hM
        rw [← nI_1 i] at ih1
        exact ih1
    refine key n 0 h (by omega) (MM.arr hM (fun j _ _ => ?_))
    by_cases hj : j = 2
    · subst hj
      rw [va_up_self]
      rfl
    · rw [va_up_ne _ _ hj]
  have eol : ∀ (r i l p : Nat) (s : Nat → Int32) (t : Nat → Nat → Int32) (h : im_H), i + r = n → MM b h0 h s t → gG tb_T (gD (d + 5)) (some .int) cd_534 99 [some (.ref b), some (.int (nI n)), some (.int (nI l)), some (.int (nI p)), some (.int (nI (mEol (t 1) r i)))] [] h Q → gG tb_T (gD (d + 5)) (some .int) cd_534 75 [some (.ref b), some (.int (nI n)), some (.int (nI l)), some (.int (nI p)), some (.int (nI i))] [] h Q := by
    intro r
    induction r with
    | zero =>
      intro i l p s t h hi hM nx
      iterate 2 refine gG.step rfl (fun _ => rfl) ?_
      refine gG.icmp (tgt := 99) rfl rfl (fun _ => nx) (fun c => absurd ((c_ge (by omega) (by omega)).mpr (by omega)) c)
    | succ r ih =>
      intro i l p s t h hi hM nx
      rw [mEol] at nx
      iterate 2 refine gG.step rfl (fun _ => rfl) ?_
      refine gG.icmp (tgt := 99) rfl rfl (fun c => absurd ((c_ge (by omega) (by omega)).mp c) (by omega)) (fun _ => ?_)
      refine gG.step rfl (fun _ => rfl) ?_
      refine mGet hM rfl rfl ?_
      refine gG.step rfl (fun _ => rfl) ?_
      refine mAld (j := 1) (n := i) hM rfl (by decide) (by decide) rfl (show i < 3000 by omega) ?_
      refine gG.step rfl (fun _ => rfl) ?_
      refine gG.icmp (tgt := 99) rfl rfl (fun c => ?_) (fun c => ?_)
      · rw [if_pos (show t 1 i = 10 from c_ee.mp c)] at nx
        exact nx
      · rw [if_neg (show ¬ t 1 i = 10 from fun z => c (c_ee.mpr z))] at nx
        refine gG.step rfl (fun _ => rfl) ?_
        refine gG.goto (tgt := 75) rfl rfl ?_
        have ih1 := ih (i + 1) l p s t h (by omega) hM nx
        rw [← nI_1 i] at ih1
        exact ih1
  have loop : ∀ (r p l : Nat) (s : Nat → Int32) (t : Nat → Nat → Int32) (h : im_H) (x4 : Option Value), n < p + r → p ≤ n + 1 → l + r ≤ n + 1 → J s t → MM b h0 h s t → (∀ h', MM b h0 h' (mEnd n (mLp n r p l s t)).2.1 (mEnd n (mLp n r p l s t)).2.2 → Q (some (.int (mEnd n (mLp n r p l s t)).1)) h') → gG tb_T (gD (d + 5)) (some .int) cd_534 60 [some (.ref b), some (.int (nI n)), some (.int (nI l)), some (.int (nI p)), x4] [] h Q := by
    intro r
    induction r with
    | zero =>
      intro p l s t h x4 hr hpn hlr hJs hM k
      rw [mLp] at k
      iterate 2 refine gG.step rfl (fun _ => rfl) ?_
      refine gG.icmp (tgt := 121) rfl rfl (fun _ => ?_) (fun c => absurd ((c_ge (by omega) (by omega)).mpr (by omega)) c)
      exact fin l p s t h x4 (by omega) hJs hM k
    | succ r ih =>
      intro p l s t h x4 hr hpn hlr hJs hM k
      rw [mLp] at k
      iterate 2 refine gG.step rfl (fun _ => rfl) ?_
      by_cases hlt : p < n
      · refine gG.icmp (tgt := 121) rfl rfl (fun c => absurd ((c_ge (by omega) (by omega)).mp c) (by omega)) (fun _ => ?_)
        refine gG.step rfl (fun _ => rfl) ?_
        refine mGet hM rfl rfl ?_
        by_cases hz : s 11 = 0
        · rw [if_pos ⟨hlt, hz⟩] at k
          refine gG.ifc (tgt := 121) rfl rfl (fun c => absurd hz (c_ne.mp c)) (fun _ => ?_)
          refine gG.step rfl (fun _ => rfl) ?_
          refine gG.step (L' := [some (.ref b), some (.int (nI n)), some (.int (nI l)), some (.int (nI p)), some (.int (nI p))]) rfl (fun _ => rfl) ?_
          refine eol (n - p) p l p s t h (by omega) hM ?_
          have hq := mEol_ge (t 1) (n - p) p
          generalize mEol (t 1) (n - p) p = q at k hq ⊢
          obtain ⟨hE5, hp8, h7⟩ := hJ s t hJs
          have hJ3 := hJ2 s t p q hJs (by omega) (by omega)
          refine gG.step (L' := [some (.ref b), some (.int (nI n)), some (.int (nI l + 1)), some (.int (nI p)), some (.int (nI q))]) rfl (fun _ => rfl) ?_
          rw [nI_1]
          iterate 4 refine gG.step rfl (fun _ => rfl) ?_
          refine mVir hM rfl rfl rfl (Nat.le_of_ble_eq_true rfl) rfl rfl (Nat.le_of_ble_eq_true rfl) ?_
          refine m_533 d hM (by omega) (by omega) hE5 hp8 h7 _ (fun h hM => ?_)
          show gG _ _ _ _ 110 _ [Value.int (mLine s t p q).1, Value.ref b] h Q
          refine mPut hM rfl (by decide) rfl rfl rfl (fun h hM => ?_)
          iterate 3 refine gG.step rfl (fun _ => rfl) ?_
          have e1 : nI q + 1 = nI (q + 1) := nI_1 q
          show gG _ _ _ _ 117 _ [Value.int (nI q + 1)] h Q
          rw [e1]
          refine gG.step (L' := [some (.ref b), some (.int (nI n)), some (.int (nI (l + 1))), some (.int (nI (q + 1))), some (.int (nI q))]) rfl (fun _ => rfl) ?_
          refine gG.goto (tgt := 60) rfl rfl ?_
          exact ih (q + 1) (l + 1) _ _ h _ (by omega) (by omega) (by omega) hJ3 hM k
        · rw [if_neg (fun z => hz z.2)] at k
          refine gG.ifc (tgt := 121) rfl rfl (fun _ => ?_) (fun c => absurd (c_ne.mpr hz) c)
          exact fin l p s t h x4 (by omega) hJs hM k
      · rw [if_neg (fun z => hlt z.1)] at k
        refine gG.icmp (tgt := 121) rfl rfl (fun _ => ?_) (fun c => absurd ((c_ge (by omega) (by omega)).mpr (by omega)) c)
        exact fin l p s t h x4 (by omega) hJs hM k
  exact loop (n + 1) 0 0 _ _ h none (by omega) (by omega) (by omega) hJ0 hM k
