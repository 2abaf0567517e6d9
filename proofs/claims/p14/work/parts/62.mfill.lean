def lrm (x : Int64) : Int64 := x - x / 10 * 10
def mDg (v : Int64) : Int32 := 48 + (lrm v).toInt32
def mSD : Nat → Int64 → Nat → (Nat → Int32) → Int64 × Nat × (Nat → Int32)
  | 0, v, n, g => (v, n, g)
  | r + 1, v, n, g => mSD r (v / 10) (n + 1) (upd g n (mDg v))
def mSW : Nat → Int64 → Nat → (Nat → Int32) → Nat × (Nat → Int32)
  | 0, _, n, g => (n, g)
  | r + 1, v, n, g => if lg_cmp (v / 10) 0 ≤ 0 then (n + 1, upd g n (mDg v)) else mSW r (v / 10) (n + 1) (upd g n (mDg v))
def mSpell (v : Int64) (dc pl : Nat) (g : Nat → Int32) : Nat × (Nat → Int32) := if dc = 0 then mSW pl v 0 g else mSW (pl - (dc + 1)) (mSD dc v 0 g).1 (dc + 1) (upd (mSD dc v 0 g).2.2 dc 46)
theorem mSD_n : ∀ (r : Nat) (v : Int64) (n : Nat) (g : Nat → Int32), (mSD r v n g).2.1 = n + r
  | 0, _, _, _ => rfl
  | r + 1, v, n, g => by
    rw [mSD, mSD_n r]
    omega
theorem m_542 (d : Nat) {b : Nat} {h0 h : im_H} {s : Nat → Int32} {t : Nat → Nat → Int32} (hM : MM b h0 h s t) {v : Int64} {dc pl : Nat} (hd : dc ≤ 9) (hp : pl ≤ 80) (Q : Option Value → im_H → Prop) (k : ∀ h', MM b h0 h' s (va_up t 12 (mSpell v dc pl (t 12)).2) → Q (some (.int (nI (mSpell v dc pl (t 12)).1))) h') : gC (gD (d + 1)) 542 [.ref b, .long v, .int (nI dc), .int (nI pl)] h Q := by
  refine gC.of (q := me_542.2) rfl (Nat.le_of_ble_eq_true rfl) rfl ?_
  refine gG.step (cd := cd_542) rfl (fun _ => rfl) ?_
  refine gG.step (L' := [some (.ref b), some (.long v), none, some (.int (nI dc)), some (.int (nI pl)), some (.long v), none, none, none]) rfl (fun _ => rfl) ?_
  refine gG.step rfl (fun _ => rfl) ?_
  refine gG.step (L' := [some (.ref b), some (.long v), none, some (.int (nI dc)), some (.int (nI pl)), some (.long v), none, some (.int (nI 0)), none]) rfl (fun _ => rfl) ?_
  refine gG.step rfl (fun _ => rfl) ?_
  refine gG.step (L' := [some (.ref b), some (.long v), none, some (.int (nI dc)), some (.int (nI pl)), some (.long v), none, some (.int (nI 0)), some (.int (nI 0))]) rfl (fun _ => rfl) ?_
  have ten : ¬ (Int64.ofNat 10 : Int64) = 0 := by decide
  -- what is behind the decimals: the while
  have wh : ∀ (r n : Nat) (w : Int64) (g : Nat → Int32) (h : im_H) (x8 : Int32), (pl = n + r ∨ (r = 0 ∧ pl ≤ n)) → n ≤ 90 → MM b h0 h s (va_up t 12 g) → ¬ x8 = 0 → (∀ h', MM b h0 h' s (va_up t 12 (mSW r w n g).2) → Q (some (.int (nI (mSW r w n g).1))) h') → gG tb_T (gD d) (some .int) cd_542 68 [some (.ref b), some (.long v), none, some (.int (nI dc)), some (.int (nI pl)), some (.long w), none, some (.int (nI n)), some (.int x8)] [] h Q := by
    intro r
    induction r with
    | zero =>
      intro n w g h x8 hn hn90 hM hx hq
      refine gG.step rfl (fun _ => rfl) ?_
      refine gG.ifc (tgt := 125) rfl rfl (fun c => absurd (c_ee.mp c) hx) (fun _ => ?_)
      iterate 2 refine gG.step rfl (fun _ => rfl) ?_
      refine gG.icmp (tgt := 125) rfl rfl (fun _ => ?_) (fun c => absurd ((c_ge (by omega) (by omega)).mpr (by omega)) c)
      refine gG.step rfl (fun _ => rfl) ?_
      exact gG.done rfl (fun _ => rfl) (hq h hM)
    | succ r ih =>
      intro n w g h x8 hn hn90 hM hx hq
      have hn : pl = n + (r + 1) := by omega
      refine gG.step rfl (fun _ => rfl) ?_
      refine gG.ifc (tgt := 125) rfl rfl (fun c => absurd (c_ee.mp c) hx) (fun _ => ?_)
      iterate 2 refine gG.step rfl (fun _ => rfl) ?_
      refine gG.icmp (tgt := 125) rfl rfl (fun z => absurd ((c_ge (by omega) (by omega)).mp z) (by omega)) (fun _ => ?_)
      refine gG.step rfl (fun _ => rfl) ?_
      refine mGet hM rfl rfl ?_
      iterate 4 refine gG.step rfl (fun _ => rfl) ?_
      refine gG.lrem rfl ten ?_
      iterate 2 refine gG.step rfl (fun _ => rfl) ?_
      refine mAst (j := 12) (n := n) hM rfl (by decide) (by decide) rfl (show n < 90 by omega) (fun h hM => ?_)
      have hM : MM b h0 h s (va_up t 12 (upd g n (mDg w))) := by
        obtain ⟨g1, g2, g3⟩ := hM
        refine ⟨g1, g2, fun j a c => ?_⟩
        rw [g3 j a c]
        by_cases hj : j = 12
        · subst hj
          rw [va_up_self, va_up_self, va_up_self]
          rfl
        · rw [va_up_ne _ _ hj, va_up_ne _ _ hj, va_up_ne _ _ hj]
      iterate 2 refine gG.step rfl (fun _ => rfl) ?_
      refine gG.ldiv rfl ten ?_
      refine gG.step (L' := [some (.ref b), some (.long v), none, some (.int (nI dc)), some (.int (nI pl)), some (.long (w / 10)), none, some (.int (nI n)), some (.int x8)]) rfl (fun _ => rfl) ?_
      refine gG.step (L' := [some (.ref b), some (.long v), none, some (.int (nI dc)), some (.int (nI pl)), some (.long (w / 10)), none, some (.int (nI n + 1)), some (.int x8)]) rfl (fun _ => rfl) ?_
      rw [nI_1]
      iterate 3 refine gG.step rfl (fun _ => rfl) ?_
      rw [mSW] at hq
      refine gG.ifc (tgt := 119) rfl rfl (fun c => ?_) (fun c => ?_)
      · rw [if_pos (show lg_cmp (w / 10) 0 ≤ 0 from of_decide_eq_true c)] at hq
        refine gG.step rfl (fun _ => rfl) ?_
        refine gG.step (L' := [some (.ref b), some (.long v), none, some (.int (nI dc)), some (.int (nI pl)), some (.long (w / 10)), none, some (.int (nI (n + 1))), some (.int 0)]) rfl (fun _ => rfl) ?_
        refine gG.goto (tgt := 68) rfl rfl ?_
        refine gG.step rfl (fun _ => rfl) ?_
        refine gG.ifc (tgt := 125) rfl rfl (fun _ => ?_) (fun c => absurd (by decide) c)
        refine gG.step rfl (fun _ => rfl) ?_
        exact gG.done rfl (fun _ => rfl) (hq h hM)
      · rw [if_neg (show ¬ lg_cmp (w / 10) 0 ≤ 0 from fun z => c (decide_eq_true z))] at hq
        refine gG.step rfl (fun _ => rfl) ?_
        refine gG.goto (tgt := 120) rfl rfl ?_
        refine gG.step (L' := [some (.ref b), some (.long v), none, some (.int (nI dc)), some (.int (nI pl)), some (.long (w / 10)), none, some (.int (nI (n + 1))), some (.int 1)]) rfl (fun _ => rfl) ?_
        refine gG.goto (tgt := 68) rfl rfl ?_
        exact ih (n + 1) (w / 10) (upd g n (mDg w)) h 1 (by omega) (by omega) hM (by decide) hq
  have key : ∀ (r i : Nat) (w : Int64) (g : Nat → Int32) (h : im_H), i + r = dc → MM b h0 h s (va_up t 12 g) → mSD r w i g = mSD dc v 0 (t 12) → gG tb_T (gD d) (some .int) cd_542 9 [some (.ref b), some (.long v), none, some (.int (nI dc)), some (.int (nI pl)), some (.long w), none, some (.int (nI i)), some (.int (nI i))] [] h Q := by
    intro r
    induction r with
    | zero =>
      intro i w g h hi hM he
      have hi : i = dc := by omega
      subst hi
      iterate 2 refine gG.step rfl (fun _ => rfl) ?_
      refine gG.icmp (tgt := 49) rfl rfl (fun _ => ?_) (fun c => absurd ((c_ge (by omega) (by omega)).mpr (by omega)) c)
      refine gG.step rfl (fun _ => rfl) ?_
      rw [mSD] at he
      unfold mSpell at k
      rw [← he] at k
      by_cases hz : i = 0
      · subst hz
        rw [if_pos rfl] at k
        have e2 : t 12 = g := (congrArg (fun z => z.2.2) he).symm
        have e3 : w = v := congrArg (fun z => z.1) he
        refine gG.ifc (tgt := 65) rfl rfl (fun _ => ?_) (fun c => absurd (by decide) c)
        iterate 2 refine gG.step rfl (fun _ => rfl) ?_
        refine wh pl 0 w g h 1 (by omega) (by omega) hM (by decide) ?_
        rw [← e2, e3]
        exact k
      · rw [if_neg hz] at k
        refine gG.ifc (tgt := 65) rfl rfl (fun c => absurd ((c_le (b := 0) (by omega) (by decide)).mp c) (by omega)) (fun _ => ?_)
        refine gG.step rfl (fun _ => rfl) ?_
        refine mGet hM rfl rfl ?_
        iterate 2 refine gG.step rfl (fun _ => rfl) ?_
        refine mAst (j := 12) (n := i) hM rfl (by decide) (by decide) rfl (show i < 90 by omega) (fun h hM => ?_)
        have hM : MM b h0 h s (va_up t 12 (upd g i 46)) := by
          obtain ⟨g1, g2, g3⟩ := hM
          refine ⟨g1, g2, fun j a c => ?_⟩
          rw [g3 j a c]
          by_cases hj : j = 12
          · subst hj
            rw [va_up_self, va_up_self, va_up_self]
            rfl
          · rw [va_up_ne _ _ hj, va_up_ne _ _ hj, va_up_ne _ _ hj]
        refine gG.step (L' := [some (.ref b), some (.long v), none, some (.int (nI i)), some (.int (nI pl)), some (.long w), none, some (.int (nI i + 1)), some (.int (nI i))]) rfl (fun _ => rfl) ?_
        rw [nI_1]
        iterate 2 refine gG.step rfl (fun _ => rfl) ?_
        exact wh (pl - (i + 1)) (i + 1) w (upd g i 46) h 1 (by omega) (by omega) hM (by decide) k
    | succ r ih =>
      intro i w g h hi hM he
      iterate 2 refine gG.step rfl (fun _ => rfl) ?_
      refine gG.icmp (tgt := 49) rfl rfl (fun z => absurd ((c_ge (by omega) (by omega)).mp z) (by omega)) (fun _ => ?_)
      refine gG.step rfl (fun _ => rfl) ?_
      refine mGet hM rfl rfl ?_
      iterate 4 refine gG.step rfl (fun _ => rfl) ?_
      refine gG.lrem rfl ten ?_
      iterate 2 refine gG.step rfl (fun _ => rfl) ?_
      refine mAst (j := 12) (n := i) hM rfl (by decide) (by decide) rfl (show i < 90 by omega) (fun h hM => ?_)
      have hM : MM b h0 h s (va_up t 12 (upd g i (mDg w))) := by
        obtain ⟨g1, g2, g3⟩ := hM
        refine ⟨g1, g2, fun j a c => ?_⟩
        rw [g3 j a c]
        by_cases hj : j = 12
        · subst hj
          rw [va_up_self, va_up_self, va_up_self]
          rfl
        · rw [va_up_ne _ _ hj, va_up_ne _ _ hj, va_up_ne _ _ hj]
      iterate 2 refine gG.step rfl (fun _ => rfl) ?_
      refine gG.ldiv rfl ten ?_
      refine gG.step (L' := [some (.ref b), some (.long v), none, some (.int (nI dc)), some (.int (nI pl)), some (.long (w / 10)), none, some (.int (nI i)), some (.int (nI i))]) rfl (fun _ => rfl) ?_
      refine gG.step (L' := [some (.ref b), some (.long v), none, some (.int (nI dc)), some (.int (nI pl)), some (.long (w / 10)), none, some (.int (nI i + 1)), some (.int (nI i))]) rfl (fun _ => rfl) ?_
      refine gG.step (L' := [some (.ref b), some (.long v), none, some (.int (nI dc)), some (.int (nI pl)), some (.long (w / 10)), none, some (.int (nI i + 1)), some (.int (nI i + 1))]) rfl (fun _ => rfl) ?_
      refine gG.goto (tgt := 9) rfl rfl ?_
      rw [nI_1]
      rw [mSD] at he
      exact ih (i + 1) (w / 10) (upd g i (mDg w)) h (by omega) hM he
  refine key dc 0 v (t 12) h (by omega) ?_ rfl
  obtain ⟨g1, g2, g3⟩ := hM
  refine ⟨g1, g2, fun j a c => ?_⟩
  rw [g3 j a c]
  by_cases hj : j = 12
  · subst hj
    rw [va_up_self]
  · rw [va_up_ne _ _ hj]
