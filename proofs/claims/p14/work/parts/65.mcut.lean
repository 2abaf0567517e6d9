/-! a line is cut -/
def mSk (x : Nat → Int32) : Nat → Nat → Nat
  | 0, p => p
  | r + 1, p => if x p = 32 then mSk x r (p + 1) else p
theorem mSk_ge (x : Nat → Int32) : ∀ r p : Nat, p ≤ mSk x r p ∧ mSk x r p ≤ p + r
  | 0, p => ⟨Nat.le_refl _, Nat.le_refl _⟩
  | r + 1, p => by
    rw [mSk]
    split
    · have := mSk_ge x r (p + 1)
      omega
    · omega
/-- digits from p on, at most r of them, ahead of q -/
def mPd (x : Nat → Int32) (q : Nat) : Nat → Nat → Int32 → Nat × Int32
  | 0, p, v => (p, v)
  | r + 1, p, v => if p < q ∧ 48 ≤ x p ∧ x p ≤ 57 then mPd x q r (p + 1) (10 * v + x p - 48) else (p, v)
theorem mPd_ge (x : Nat → Int32) (q : Nat) : ∀ (r p : Nat) (v : Int32), p ≤ (mPd x q r p v).1 ∧ (mPd x q r p v).1 ≤ p + r ∧ (p ≤ q → (mPd x q r p v).1 ≤ q)
  | 0, p, v => ⟨Nat.le_refl _, Nat.le_refl _, fun h => h⟩
  | r + 1, p, v => by
    rw [mPd]
    split
    · rename_i hc
      have := mPd_ge x q r (p + 1) (10 * v + x p - 48)
      refine ⟨by omega, by omega, fun _ => this.2.2 (by omega)⟩
    · exact ⟨Nat.le_refl _, Nat.le_add_right _ _, fun h => h⟩
/-- numbers from p on: whether they are such, how many, which -/
def mNs (x : Nat → Int32) (q : Nat) : Nat → Nat → Nat → (Nat → Int32) → Bool × Nat × (Nat → Int32)
  | 0, _, n, g => (true, n, g)
  | r + 1, p, n, g => if p < q then (if mSk x (q - p) p = q then (true, n, g) else if mSk x (q - p) p = p ∨ n = 6 then (false, n, g) else if (mPd x q 4 (mSk x (q - p) p) 0).1 = mSk x (q - p) p ∨ mSk x (q - p) p + 3 < (mPd x q 4 (mSk x (q - p) p) 0).1 then (false, n, g) else mNs x q r (mPd x q 4 (mSk x (q - p) p) 0).1 (n + 1) (upd g n (mPd x q 4 (mSk x (q - p) p) 0).2)) else (true, n, g)
/-- the line p .. q: its word (0 it says nothing, -1 it isn't such a line) -/
def mCut (s : Nat → Int32) (t : Nat → Nat → Int32) (p q : Nat) : Int32 × (Nat → Int32) × (Nat → Nat → Int32) :=
  let p0 := mSk (t 1) (q - p) p
  if p0 = q ∨ t 1 p0 = 42 then (0, s, t) else
  if t 1 p0 = 73 then ((if p0 + 1 < q ∧ t 1 (p0 + 1) = 32 ∧ p0 + 2 < q then 73 else -1), upd (upd (upd s 16 0) 17 (nI (p0 + 2))) 18 (nI q), t) else
  let z := mNs (t 1) q (q - p0) (p0 + 1) 0 (t 9)
  ((if z.1 = true ∧ nI z.2.1 = mDue (t 1 p0) then t 1 p0 else -1), upd s 16 (nI z.2.1), va_up t 9 z.2.2)
theorem m_516 (d : Nat) {b : Nat} {h0 h : im_H} {s : Nat → Int32} {t : Nat → Nat → Int32} (hM : MM b h0 h s t) {p q : Nat} (hpq : p ≤ q) (hq : q ≤ 3000) (Q : Option Value → im_H → Prop) (k : ∀ h', MM b h0 h' (mCut s t p q).2.1 (mCut s t p q).2.2 → Q (some (.int (mCut s t p q).1)) h') : gC (gD (d + 2)) 516 [.ref b, .int (nI p), .int (nI q)] h Q := by
  refine gC.of (q := me_516.2) rfl (Nat.le_of_ble_eq_true rfl) rfl ?_
  refine gG.step (cd := cd_516) rfl (fun _ => rfl) ?_
  refine gG.step (L' := [some (.ref b), some (.int (nI p)), some (.int (nI q)), some (.int (nI p)), none, none, none, none]) rfl (fun _ => rfl) ?_
  -- blanks ahead
  have skip : ∀ (r i : Nat) (x4 x5 x6 x7 : Option Value), i + r = q → gG tb_T (gD (d + 1)) (some .int) cd_516 24 [some (.ref b), some (.int (nI p)), some (.int (nI q)), some (.int (nI (mSk (t 1) r i))), x4, x5, x6, x7] [] h Q → gG tb_T (gD (d + 1)) (some .int) cd_516 2 [some (.ref b), some (.int (nI p)), some (.int (nI q)), some (.int (nI i)), x4, x5, x6, x7] [] h Q := by
    intro r
    induction r with
    | zero =>
      intro i x4 x5 x6 x7 hi nx
      iterate 2 refine gG.step rfl (fun _ => rfl) ?_
      refine gG.icmp (tgt := 24) rfl rfl (fun _ => nx) (fun c => absurd ((c_ge (by omega) (by omega)).mpr (by omega)) c)
    | succ r ih =>
      intro i x4 x5 x6 x7 hi nx
      rw [mSk] at nx
      iterate 2 refine gG.step rfl (fun _ => rfl) ?_
      refine gG.icmp (tgt := 24) rfl rfl (fun z => absurd ((c_ge (by omega) (by omega)).mp z) (by omega)) (fun _ => ?_)
      refine gG.step rfl (fun _ => rfl) ?_
      refine mGet hM rfl rfl ?_
      refine gG.step rfl (fun _ => rfl) ?_
      refine mAld (j := 1) (n := i) hM rfl (by decide) (by decide) rfl (show i < 3000 by omega) ?_
      refine gG.step rfl (fun _ => rfl) ?_
      refine gG.icmp (tgt := 24) rfl rfl (fun c => ?_) (fun c => ?_)
      · rw [if_neg (show ¬ t 1 i = 32 from c_ne.mp c)] at nx
        exact nx
      · rw [if_pos (show t 1 i = 32 from Decidable.not_not.mp (fun z => c (c_ne.mpr z)))] at nx
        refine gG.step rfl (fun _ => rfl) ?_
        refine gG.goto (tgt := 2) rfl rfl ?_
        have ih1 := ih (i + 1) x4 x5 x6 x7 (by omega) nx
        rw [← nI_1 i] at ih1
        exact ih1
  refine skip (q - p) p none none none none (by omega) ?_
  unfold mCut at k
  dsimp only at k
  have hp0 := mSk_ge (t 1) (q - p) p
  generalize mSk (t 1) (q - p) p = p0 at k hp0 ⊢
  have hp0q : p0 ≤ q := by omega
  iterate 2 refine gG.step rfl (fun _ => rfl) ?_
  have nothing : (p0 = q ∨ t 1 p0 = 42) → gG tb_T (gD (d + 1)) (some .int) cd_516 40 [some (.ref b), some (.int (nI p)), some (.int (nI q)), some (.int (nI p0)), none, none, none, none] [] h Q := by
    intro hz
    rw [if_pos hz] at k
    refine gG.step rfl (fun _ => rfl) ?_
    exact gG.done rfl (fun _ => rfl) (k h hM)
  refine gG.icmp (tgt := 40) rfl rfl (fun c => nothing (Or.inl ((c_eq (by omega) (by omega)).mp c))) (fun c => ?_)
  have hne : ¬ p0 = q := fun z => c ((c_eq (by omega) (by omega)).mpr z)
  refine gG.step rfl (fun _ => rfl) ?_
  refine mGet hM rfl rfl ?_
  refine gG.step rfl (fun _ => rfl) ?_
  refine mAld (j := 1) (n := p0) hM rfl (by decide) (by decide) rfl (show p0 < 3000 by omega) ?_
  refine gG.step rfl (fun _ => rfl) ?_
  refine gG.icmp (tgt := 42) rfl rfl (fun c2 => ?_) (fun c2 => nothing (Or.inr (show t 1 p0 = 42 from Decidable.not_not.mp (fun z => c2 (c_ne.mpr z)))))
  have hns : ¬ t 1 p0 = 42 := c_ne.mp c2
  rw [if_neg (fun z => z.elim hne hns)] at k
  refine gG.step rfl (fun _ => rfl) ?_
  refine mGet hM rfl rfl ?_
  refine gG.step rfl (fun _ => rfl) ?_
  refine mAld (j := 1) (n := p0) hM rfl (by decide) (by decide) rfl (show p0 < 3000 by omega) ?_
  refine gG.step (L' := [some (.ref b), some (.int (nI p)), some (.int (nI q)), some (.int (nI p0)), some (.int (t 1 p0)), none, none, none]) rfl (fun _ => rfl) ?_
  refine gG.step (L' := [some (.ref b), some (.int (nI p)), some (.int (nI q)), some (.int (nI p0 + 1)), some (.int (t 1 p0)), none, none, none]) rfl (fun _ => rfl) ?_
  rw [nI_1]
  iterate 2 refine gG.step rfl (fun _ => rfl) ?_
  refine mPut hM rfl (by decide) rfl rfl rfl (fun h hM => ?_)
  iterate 2 refine gG.step rfl (fun _ => rfl) ?_
  refine gG.icmp (tgt := 107) rfl rfl (fun c3 => ?_) (fun c3 => ?_)
  · -- numbers
    rw [if_neg (show ¬ t 1 p0 = 73 from c_ne.mp c3)] at k
    generalize hw : t 1 p0 = w at k ⊢
    have fin : ∀ (n i : Nat) (g : Nat → Int32) (h : im_H) (x5 x6 x7 : Option Value), MM b h0 h (upd s 16 (nI n)) (va_up t 9 g) → (true, n, g) = mNs (t 1) q (q - p0) (p0 + 1) 0 (t 9) → gG tb_T (gD (d + 1)) (some .int) cd_516 260 [some (.ref b), some (.int (nI p)), some (.int (nI q)), some (.int (nI i)), some (.int w), x5, x6, x7] [] h Q := by
      intro n i g h x5 x6 x7 hM he
      rw [← he] at k
      dsimp only at k
      have k := k h hM
      refine gG.step rfl (fun _ => rfl) ?_
      refine mGet hM rfl rfl ?_
      refine gG.step rfl (fun _ => rfl) ?_
      refine gG.inv rfl (fun _ => rfl) (Nat.le_of_ble_eq_true rfl) rfl rfl (Nat.le_of_ble_eq_true rfl) ?_
      refine m_517 d _ _ _ ?_
      show gG _ _ _ _ 269 _ [Value.int (mDue w), Value.int (nI n)] h Q
      refine gG.icmp (tgt := 277) rfl rfl (fun c => ?_) (fun c => ?_)
      · rw [if_neg (fun z => c_ne.mp c z.2)] at k
        refine gG.step rfl (fun _ => rfl) ?_
        exact gG.done rfl (fun _ => rfl) (k)
      · rw [if_pos ⟨rfl, Decidable.not_not.mp (fun z => c (c_ne.mpr z))⟩] at k
        refine gG.step rfl (fun _ => rfl) ?_
        refine gG.goto (tgt := 278) rfl rfl ?_
        exact gG.done rfl (fun _ => rfl) (k)
    have bad : ∀ (n : Nat) (g : Nat → Int32) (h : im_H), MM b h0 h (upd s 16 (nI n)) (va_up t 9 g) → (false, n, g) = mNs (t 1) q (q - p0) (p0 + 1) 0 (t 9) → Q (some (.int (-1))) h := by
      intro n g h hM he
      rw [← he] at k
      have k := k h hM
      dsimp only at k
      rw [if_neg (fun z => by cases z.1)] at k
      exact k
    have skip2 : ∀ (r i : Nat) (h : im_H) (s1 : Nat → Int32) (t1 : Nat → Nat → Int32) (x5 x6 x7 : Option Value), i + r = q → MM b h0 h s1 t1 → t1 1 = t 1 → gG tb_T (gD (d + 1)) (some .int) cd_516 137 [some (.ref b), some (.int (nI p)), some (.int (nI q)), some (.int (nI (mSk (t 1) r i))), some (.int w), x5, x6, x7] [] h Q → gG tb_T (gD (d + 1)) (some .int) cd_516 115 [some (.ref b), some (.int (nI p)), some (.int (nI q)), some (.int (nI i)), some (.int w), x5, x6, x7] [] h Q := by
      intro r
      induction r with
      | zero =>
        intro i h s1 t1 x5 x6 x7 hi hM ht nx
        iterate 2 refine gG.step rfl (fun _ => rfl) ?_
        refine gG.icmp (tgt := 137) rfl rfl (fun _ => nx) (fun c => absurd ((c_ge (by omega) (by omega)).mpr (by omega)) c)
      | succ r ih =>
        intro i h s1 t1 x5 x6 x7 hi hM ht nx
        rw [mSk] at nx
        iterate 2 refine gG.step rfl (fun _ => rfl) ?_
        refine gG.icmp (tgt := 137) rfl rfl (fun z => absurd ((c_ge (by omega) (by omega)).mp z) (by omega)) (fun _ => ?_)
        refine gG.step rfl (fun _ => rfl) ?_
        refine mGet hM rfl rfl ?_
        refine gG.step rfl (fun _ => rfl) ?_
        refine mAld (j := 1) (n := i) hM rfl (by decide) (by decide) rfl (show i < 3000 by omega) ?_
        rw [ht]
        refine gG.step rfl (fun _ => rfl) ?_
        refine gG.icmp (tgt := 137) rfl rfl (fun c => ?_) (fun c => ?_)
        · rw [if_neg (show ¬ t 1 i = 32 from c_ne.mp c)] at nx
          exact nx
        · rw [if_pos (show t 1 i = 32 from Decidable.not_not.mp (fun z => c (c_ne.mpr z)))] at nx
          refine gG.step rfl (fun _ => rfl) ?_
          refine gG.goto (tgt := 115) rfl rfl ?_
          have ih1 := ih (i + 1) h s1 t1 x5 x6 x7 (by omega) hM ht nx
          rw [← nI_1 i] at ih1
          exact ih1
    have digs : ∀ (r i p1 : Nat) (v : Int32) (h : im_H) (s1 : Nat → Int32) (t1 : Nat → Nat → Int32) (x5 : Option Value), p1 ≤ i → i + r = p1 + 4 → i ≤ q → MM b h0 h s1 t1 → t1 1 = t 1 → gG tb_T (gD (d + 1)) (some .int) cd_516 220 [some (.ref b), some (.int (nI p)), some (.int (nI q)), some (.int (nI (mPd (t 1) q r i v).1)), some (.int w), x5, some (.int (nI p1)), some (.int (mPd (t 1) q r i v).2)] [] h Q → gG tb_T (gD (d + 1)) (some .int) cd_516 168 [some (.ref b), some (.int (nI p)), some (.int (nI q)), some (.int (nI i)), some (.int w), x5, some (.int (nI p1)), some (.int v)] [] h Q := by
      intro r
      induction r with
      | zero =>
        intro i p1 v h s1 t1 x5 hpi hr hi hM ht nx
        rw [mPd] at nx
        iterate 2 refine gG.step rfl (fun _ => rfl) ?_
        refine gG.icmp (tgt := 220) rfl rfl (fun _ => nx) (fun c => ?_)
        have hlt : i < q := Nat.lt_of_not_le (fun z => c ((c_ge (by omega) (by omega)).mpr z))
        refine gG.step rfl (fun _ => rfl) ?_
        refine mGet hM rfl rfl ?_
        refine gG.step rfl (fun _ => rfl) ?_
        refine mAld (j := 1) (n := i) hM rfl (by decide) (by decide) rfl (show i < 3000 by omega) ?_
        iterate 2 refine gG.step rfl (fun _ => rfl) ?_
        refine gG.inv rfl (fun _ => rfl) (Nat.le_of_ble_eq_true rfl) rfl rfl (Nat.le_of_ble_eq_true rfl) ?_
        refine m_514 d _ _ _ _ _ ?_
        refine gG.ifc (tgt := 220) rfl rfl (fun _ => nx) (fun _ => ?_)
        iterate 4 refine gG.step rfl (fun _ => rfl) ?_
        refine gG.icmp (tgt := 220) rfl rfl (fun _ => nx) (fun c => absurd (show im_cmp .ge (nI i) (nI p1 + Int32.ofInt 4) = true from ?_) c)
        have e4 : nI p1 + Int32.ofInt 4 = nI (p1 + 4) := by rw [show Int32.ofInt 4 = nI 4 from rfl, nI_add]
        rw [e4]
        exact (c_ge (by omega) (by omega)).mpr (by omega)
      | succ r ih =>
        intro i p1 v h s1 t1 x5 hpi hr hi hM ht nx
        rw [mPd] at nx
        iterate 2 refine gG.step rfl (fun _ => rfl) ?_
        refine gG.icmp (tgt := 220) rfl rfl (fun c => ?_) (fun c => ?_)
        · rw [if_neg (fun z => absurd ((c_ge (by omega) (by omega)).mp c) (by omega))] at nx
          exact nx
        have hlt : i < q := Nat.lt_of_not_le (fun z => c ((c_ge (by omega) (by omega)).mpr z))
        refine gG.step rfl (fun _ => rfl) ?_
        refine mGet hM rfl rfl ?_
        refine gG.step rfl (fun _ => rfl) ?_
        refine mAld (j := 1) (n := i) hM rfl (by decide) (by decide) rfl (show i < 3000 by omega) ?_
        rw [ht]
        iterate 2 refine gG.step rfl (fun _ => rfl) ?_
        refine gG.inv rfl (fun _ => rfl) (Nat.le_of_ble_eq_true rfl) rfl rfl (Nat.le_of_ble_eq_true rfl) ?_
        refine m_514 d _ _ _ _ _ ?_
        show gG _ _ _ _ 186 _ [Value.int (bI (decide (48 ≤ t 1 i ∧ t 1 i ≤ 57)))] h Q
        by_cases hd : 48 ≤ t 1 i ∧ t 1 i ≤ 57
        · rw [if_pos ⟨hlt, hd⟩] at nx
          rw [decide_eq_true hd]
          refine gG.ifc (tgt := 220) rfl rfl (fun c => absurd c (by decide)) (fun _ => ?_)
          iterate 4 refine gG.step rfl (fun _ => rfl) ?_
          have e4 : nI p1 + Int32.ofInt 4 = nI (p1 + 4) := by rw [show Int32.ofInt 4 = nI 4 from rfl, nI_add]
          refine gG.icmp (tgt := 220) rfl rfl (fun c => absurd (show i ≥ p1 + 4 from (c_ge (by omega) (by omega)).mp (by rw [← e4]; exact c)) (by omega)) (fun _ => ?_)
          iterate 4 refine gG.step rfl (fun _ => rfl) ?_
          refine mGet hM rfl rfl ?_
          refine gG.step rfl (fun _ => rfl) ?_
          refine mAld (j := 1) (n := i) hM rfl (by decide) (by decide) rfl (show i < 3000 by omega) ?_
          rw [ht]
          iterate 3 refine gG.step rfl (fun _ => rfl) ?_
          refine gG.step (L' := [some (.ref b), some (.int (nI p)), some (.int (nI q)), some (.int (nI i)), some (.int w), x5, some (.int (nI p1)), some (.int (10 * v + t 1 i - 48))]) rfl (fun _ => rfl) ?_
          refine gG.step rfl (fun _ => rfl) ?_
          refine gG.goto (tgt := 168) rfl rfl ?_
          have ih1 := ih (i + 1) p1 (10 * v + t 1 i - 48) h s1 t1 x5 (by omega) (by omega) (by omega) hM ht nx
          rw [← nI_1 i] at ih1
          exact ih1
        · rw [if_neg (fun z => hd z.2)] at nx
          rw [decide_eq_false hd]
          refine gG.ifc (tgt := 220) rfl rfl (fun _ => nx) (fun c => absurd (by decide) c)
    have nums : ∀ (r i n : Nat) (g : Nat → Int32) (h : im_H) (x5 x6 x7 : Option Value), q < i + r → i ≤ q → n ≤ 6 → MM b h0 h (upd s 16 (nI n)) (va_up t 9 g) → mNs (t 1) q r i n g = mNs (t 1) q (q - p0) (p0 + 1) 0 (t 9) → gG tb_T (gD (d + 1)) (some .int) cd_516 107 [some (.ref b), some (.int (nI p)), some (.int (nI q)), some (.int (nI i)), some (.int w), x5, x6, x7] [] h Q := by
      intro r
      induction r with
      | zero =>
        intro i n g h x5 x6 x7 hr hi
        omega
      | succ r ih =>
        intro i n g h x5 x6 x7 hr hi hn hM he
        rw [mNs] at he
        iterate 2 refine gG.step rfl (fun _ => rfl) ?_
        by_cases hlt : i < q
        · rw [if_pos hlt] at he
          refine gG.icmp (tgt := 260) rfl rfl (fun c => absurd ((c_ge (by omega) (by omega)).mp c) (by omega)) (fun _ => ?_)
          refine gG.step rfl (fun _ => rfl) ?_
          refine gG.step (L' := [some (.ref b), some (.int (nI p)), some (.int (nI q)), some (.int (nI i)), some (.int w), some (.int (nI i)), x6, x7]) rfl (fun _ => rfl) ?_
          refine skip2 (q - i) i h _ _ _ _ _ (by omega) hM rfl ?_
          have hp1 := mSk_ge (t 1) (q - i) i
          generalize mSk (t 1) (q - i) i = p1 at he hp1 ⊢
          have hp1q : p1 ≤ q := by omega
          iterate 2 refine gG.step rfl (fun _ => rfl) ?_
          refine gG.icmp (tgt := 145) rfl rfl (fun c => ?_) (fun c => ?_)
          · have hne : ¬ p1 = q := fun z => c_ne.mp c (by rw [z])
            rw [if_neg hne] at he
            iterate 2 refine gG.step rfl (fun _ => rfl) ?_
            have no : (p1 = i ∨ n = 6) → gG tb_T (gD (d + 1)) (some .int) cd_516 160 [some (.ref b), some (.int (nI p)), some (.int (nI q)), some (.int (nI p1)), some (.int w), some (.int (nI i)), x6, x7] [] h Q := by
              intro hz
              rw [if_pos hz] at he
              refine gG.step rfl (fun _ => rfl) ?_
              exact gG.done rfl (fun _ => rfl) (bad n g h hM he)
            refine gG.icmp (tgt := 160) rfl rfl (fun c => no (Or.inl ((c_eq (by omega) (by omega)).mp c))) (fun c1 => ?_)
            have hne1 : ¬ p1 = i := fun z => c1 ((c_eq (by omega) (by omega)).mpr z)
            refine gG.step rfl (fun _ => rfl) ?_
            refine mGet hM rfl rfl ?_
            show gG _ _ _ _ 155 _ [Value.int (nI n)] h Q
            refine gG.step rfl (fun _ => rfl) ?_
            refine gG.icmp (tgt := 162) rfl rfl (fun c2 => ?_) (fun c2 => no (Or.inr ((nI_eq (a := n) (b := 6) (by omega) (by decide)).mp (Decidable.not_not.mp (fun z => c2 (c_ne.mpr z))))))
            have hn6 : ¬ n = 6 := fun z => c_ne.mp c2 (by rw [z]; rfl)
            rw [if_neg (fun z => z.elim hne1 hn6)] at he
            refine gG.step rfl (fun _ => rfl) ?_
            refine gG.step (L' := [some (.ref b), some (.int (nI p)), some (.int (nI q)), some (.int (nI p1)), some (.int w), some (.int (nI i)), some (.int (nI p1)), x7]) rfl (fun _ => rfl) ?_
            refine gG.step rfl (fun _ => rfl) ?_
            refine gG.step (L' := [some (.ref b), some (.int (nI p)), some (.int (nI q)), some (.int (nI p1)), some (.int w), some (.int (nI i)), some (.int (nI p1)), some (.int 0)]) rfl (fun _ => rfl) ?_
            refine digs 4 p1 p1 0 h _ _ _ (by omega) (by omega) hp1q hM rfl ?_
            have hp2 := mPd_ge (t 1) q 4 p1 0
            generalize mPd (t 1) q 4 p1 0 = z at he hp2 ⊢
            obtain ⟨p2, v⟩ := z
            dsimp only at he hp2 ⊢
            have hp2q := hp2.2.2 hp1q
            iterate 2 refine gG.step rfl (fun _ => rfl) ?_
            have no2 : (p2 = p1 ∨ p1 + 3 < p2) → gG tb_T (gD (d + 1)) (some .int) cd_516 234 [some (.ref b), some (.int (nI p)), some (.int (nI q)), some (.int (nI p2)), some (.int w), some (.int (nI i)), some (.int (nI p1)), some (.int v)] [] h Q := by
              intro hz
              rw [if_pos hz] at he
              refine gG.step rfl (fun _ => rfl) ?_
              exact gG.done rfl (fun _ => rfl) (bad n g h hM he)
            refine gG.icmp (tgt := 234) rfl rfl (fun c => no2 (Or.inl ((c_eq (by omega) (by omega)).mp c))) (fun c3 => ?_)
            have hne3 : ¬ p2 = p1 := fun z => c3 ((c_eq (by omega) (by omega)).mpr z)
            have e3 : nI p1 + Int32.ofInt 3 = nI (p1 + 3) := by rw [show Int32.ofInt 3 = nI 3 from rfl, nI_add]
            iterate 4 refine gG.step rfl (fun _ => rfl) ?_
            refine gG.icmp (tgt := 236) rfl rfl (fun c4 => ?_) (fun c4 => no2 (Or.inr (Nat.lt_of_not_le (fun z => c4 (by rw [e3]; exact (c_le (by omega) (by omega)).mpr z)))))
            have hle : p2 ≤ p1 + 3 := (c_le (by omega) (by omega)).mp (by rw [← e3]; exact c4)
            rw [if_neg (fun z => z.elim hne3 (fun z => by omega))] at he
            refine gG.step rfl (fun _ => rfl) ?_
            refine mGet hM rfl rfl ?_
            refine gG.step rfl (fun _ => rfl) ?_
            refine mGet hM rfl rfl ?_
            refine gG.step rfl (fun _ => rfl) ?_
            refine mAst (j := 9) (n := n) hM rfl (by decide) (by decide) rfl (show n < 6 by omega) (fun h hM => ?_)
            have hM := MM.arr hM (up2 _ _ _ _)
            rw [va_up_self] at hM
            iterate 2 refine gG.step rfl (fun _ => rfl) ?_
            refine mGet hM rfl rfl ?_
            show gG _ _ _ _ 252 _ [Value.int (nI n), Value.ref b] h Q
            iterate 2 refine gG.step rfl (fun _ => rfl) ?_
            have e5 : nI n + 1 = nI (n + 1) := nI_1 n
            show gG _ _ _ _ 254 _ [Value.int (nI n + 1), Value.ref b] h Q
            rw [e5]
            refine mPut hM rfl (by decide) rfl rfl rfl (fun h hM => ?_)
            have hM : MM b h0 h (upd s 16 (nI (n + 1))) (va_up t 9 (upd g n v)) := ⟨hM.1, hM.2.1, hM.2.2⟩
            refine gG.goto (tgt := 107) rfl rfl ?_
            exact ih p2 (n + 1) (upd g n v) h _ _ _ (by omega) hp2q (by omega) hM he
          · have hpe : p1 = q := (nI_eq (by omega) (by omega)).mp (Decidable.not_not.mp (fun z => c (c_ne.mpr z)))
            rw [if_pos hpe] at he
            refine gG.goto (tgt := 260) rfl rfl ?_
            exact fin n p1 g h _ _ _ hM he
        · rw [if_neg hlt] at he
          refine gG.icmp (tgt := 260) rfl rfl (fun _ => ?_) (fun c => absurd ((c_ge (by omega) (by omega)).mpr (by omega)) c)
          exact fin n i g h _ _ _ hM he
    refine nums (q - p0) (p0 + 1) 0 (t 9) h none none none (by omega) (by omega) (by omega) (MM.arr hM (fun j _ _ => ?_)) rfl
    by_cases hj : j = 9
    · subst hj
      rw [va_up_self]
    · rw [va_up_ne _ _ hj]
  · -- I
    have h73 : t 1 p0 = 73 := Decidable.not_not.mp (fun z => c3 (c_ne.mpr z))
    rw [if_pos h73] at k
    iterate 4 refine gG.step rfl (fun _ => rfl) ?_
    have e1 : nI (p0 + 1) + 1 = nI (p0 + 2) := nI_1 _
    show gG _ _ _ _ 69 _ [Value.int (nI (p0 + 1) + 1), Value.ref b] h Q
    rw [e1]
    refine mPut hM rfl (by decide) rfl rfl rfl (fun h hM => ?_)
    iterate 2 refine gG.step rfl (fun _ => rfl) ?_
    refine mPut hM rfl (by decide) rfl rfl rfl (fun h hM => ?_)
    have k := k h hM
    iterate 2 refine gG.step rfl (fun _ => rfl) ?_
    have no : ¬ (p0 + 1 < q ∧ t 1 (p0 + 1) = 32 ∧ p0 + 2 < q) → gG tb_T (gD (d + 1)) (some .int) cd_516 105 [some (.ref b), some (.int (nI p)), some (.int (nI q)), some (.int (nI (p0 + 1))), some (.int (t 1 p0)), none, none, none] [] h Q := by
      intro hz
      rw [if_neg hz] at k
      refine gG.step rfl (fun _ => rfl) ?_
      exact gG.done rfl (fun _ => rfl) (k)
    refine gG.icmp (tgt := 105) rfl rfl (fun c => no (fun z => absurd ((c_ge (by omega) (by omega)).mp c) (by omega))) (fun c => ?_)
    have g1 : p0 + 1 < q := Nat.lt_of_not_le (fun z => c ((c_ge (by omega) (by omega)).mpr z))
    refine gG.step rfl (fun _ => rfl) ?_
    refine mGet hM rfl rfl ?_
    refine gG.step rfl (fun _ => rfl) ?_
    refine mAld (j := 1) (n := p0 + 1) hM rfl (by decide) (by decide) rfl (show p0 + 1 < 3000 by omega) ?_
    refine gG.step rfl (fun _ => rfl) ?_
    refine gG.icmp (tgt := 105) rfl rfl (fun c => no (fun z => c_ne.mp c z.2.1)) (fun c => ?_)
    have g2 : t 1 (p0 + 1) = 32 := Decidable.not_not.mp (fun z => c (c_ne.mpr z))
    iterate 3 refine gG.step rfl (fun _ => rfl) ?_
    show gG _ _ _ _ 96 _ [Value.int (nI (p0 + 1) + 1)] h Q
    rw [e1]
    refine gG.step rfl (fun _ => rfl) ?_
    refine gG.icmp (tgt := 105) rfl rfl (fun c => no (fun z => absurd ((c_ge (by omega) (by omega)).mp c) (by omega))) (fun c => ?_)
    have g3 : p0 + 2 < q := Nat.lt_of_not_le (fun z => c ((c_ge (by omega) (by omega)).mpr z))
    rw [if_pos ⟨g1, g2, g3⟩] at k
    refine gG.step rfl (fun _ => rfl) ?_
    refine gG.goto (tgt := 106) rfl rfl ?_
    show gG _ _ _ _ 106 _ [Value.int (t 1 p0)] h Q
    rw [h73]
    exact gG.done rfl (fun _ => rfl) (k)
