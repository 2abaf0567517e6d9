/-! WHAT THE LINES OF A TEXT LEAVE AS IT WAS: all editions but the draft, E -/
def KM (E : Nat) (s s' : Nat → Int32) (t t' : Nat → Nat → Int32) : Prop := s' 12 = s 12 ∧ (∀ e, e ≠ E → t' 3 e = t 3 e) ∧ (∀ j M, 4 ≤ j → j ≤ 7 → M < 8 * E → t' j M = t j M) ∧ ∀ M f w, M < 8 * E → f < 30 → w < 14 → t' 8 (fI M f w) = t 8 (fI M f w)
section KMS
variable {E : Nat} {s s' s'' : Nat → Int32} {t t' t'' : Nat → Nat → Int32}
theorem KM.rf : KM E s s t t := ⟨rfl, fun _ _ => rfl, fun _ _ _ _ _ => rfl, fun _ _ _ _ _ _ => rfl⟩
theorem KM.tr (x : KM E s s' t t') (y : KM E s' s'' t' t'') : KM E s s'' t t'' :=
  ⟨y.1.trans x.1, fun e h => (y.2.1 e h).trans (x.2.1 e h), fun j M a b c => (y.2.2.1 j M a b c).trans (x.2.2.1 j M a b c), fun M f w a b c => (y.2.2.2 M f w a b c).trans (x.2.2.2 M f w a b c)⟩
theorem KM.so (h : s' 12 = s 12) : KM E s s' t t := ⟨h, fun _ _ => rfl, fun _ _ _ _ _ => rfl, fun _ _ _ _ _ _ => rfl⟩
theorem KM_tl {m f w : Nat} {v : Int32} (hm : 8 * E ≤ m) (hf : f < 30) (hw : w < 14) : KM E s s t (mTl t m f w v) :=
  ⟨rfl, fun e _ => by rw [mTl_ne (by decide)], fun j M a b _ => by rw [mTl_ne (by omega)], fun M f' w' a b c => mTl_8ne hf hw b c (fun y => absurd y.1 (by omega))⟩
theorem mLies_12 {m : Nat} {but row lo hi : Int32} : (mLies s t m but row lo hi).2 12 = s 12 := by
  unfold mLies
  split
  · cases mOvrO t m but row lo hi with
    | none => rfl
    | some o => rfl
  · rfl
theorem KM_line {p q : Nat} (hD : DI s t) : KM (nv (s 10)) s (mLine s t p q).2.1 t (mLine s t p q).2.2 := by
  have hC : KM (nv (s 10)) s (mCut s t p q).2.1 t (mCut s t p q).2.2 :=
    ⟨mCut_s s t p q (by decide) (by decide) (by decide), fun e _ => by rw [mCut_t _ _ _ _ (by decide)], fun j M a b _ => by rw [mCut_t _ _ _ _ (by omega)], fun M f w _ _ _ => by rw [mCut_t _ _ _ _ (by decide)]⟩
  have hD1 := DI_cut (p := p) (q := q) hD
  have h10 := mCut_10 s t p q
  unfold mLine
  dsimp only
  generalize mCut s t p q = z at hC hD1 h10 ⊢
  obtain ⟨w, s1, t1⟩ := z
  dsimp only at hC hD1 h10 ⊢
  rw [← h10] at hC ⊢
  split
  · exact hC
  split
  · refine hC.tr ?_
    unfold mReadMap
    split
    · split
      · exact KM.rf
      · split
        · exact KM.rf
        · dsimp only
          refine ⟨rfl, fun e he => ?_, fun j M a b c => ?_, fun M f w _ _ _ => ?_⟩
          · rw [va_up_ne _ _ (by decide), va_up_ne _ _ (by decide), va_up_ne _ _ (by decide), va_up_ne _ _ (by decide), va_up_self, pk_un he]
          · have : j = 4 ∨ j = 5 ∨ j = 6 ∨ j = 7 := by omega
            rcases this with rfl | rfl | rfl | rfl
            · rw [va_up_ne _ _ (by decide), va_up_ne _ _ (by decide), va_up_ne _ _ (by decide), va_up_self, pk_un (by omega)]
            · rw [va_up_ne _ _ (by decide), va_up_ne _ _ (by decide), va_up_self, pk_un (by omega)]
            · rw [va_up_ne _ _ (by decide), va_up_self, pk_un (by omega)]
            · rw [va_up_self, pk_un (by omega)]
          · rw [va_up_ne _ _ (by decide), va_up_ne _ _ (by decide), va_up_ne _ _ (by decide), va_up_ne _ _ (by decide), va_up_ne _ _ (by decide)]
    · exact KM.rf
  split
  · refine hC.tr ?_
    have hF : KM (nv (s1 10)) s1 (mReadField s1 t1 (mLast s1 t1)).2.1 t1 (mReadField s1 t1 (mLast s1 t1)).2.2 := by
      unfold mReadField
      cases hm : mLast s1 t1 with
      | none => exact KM.rf
      | some m =>
        obtain ⟨-, hM, hge, -, -⟩ := mLast_some hD1 hm
        have h7 := hM.2.2.2.1
        dsimp only
        by_cases hc : t1 9 0 ≤ 99 ∧ (1 ≤ t1 9 1 ∧ t1 9 1 ≤ t1 5 m) ∧ (1 ≤ t1 9 2 ∧ t1 9 2 ≤ t1 6 m) ∧ ((if t1 9 0 ≤ 0 then 0 else 1) ≤ t1 9 3 ∧ t1 9 3 ≤ 80) ∧ t1 9 4 ≤ 15
        · rw [if_pos hc]
          split
          · exact KM.rf
          · split
            · exact KM.so mLies_12
            · split
              · exact KM.rf
              · rename_i h30
                have hlt : nv (t1 7 m) < 30 := by
                  have h2 := h7.2
                  have : nv (t1 7 m) ≠ 30 := by
                    intro y
                    apply h30
                    rw [h7.1, y]
                    rfl
                  omega
                refine ⟨rfl, fun e _ => ?_, fun j M a b c => ?_, fun M f w a b c => ?_⟩
                · show mTell _ _ _ _ 3 e = _
                  rw [mTell_ne _ (by decide), va_up_ne _ _ (by decide)]
                · show mTell _ _ _ _ j M = _
                  rw [mTell_ne _ (by omega)]
                  by_cases hj : j = 7
                  · rw [hj, va_up_self, pk_un (by omega)]
                  · rw [va_up_ne _ _ hj]
                · show mTell _ _ _ _ 8 _ = _
                  rw [mTell_8ne hlt b c (fun y => absurd y.1 (by omega)) 14 (Nat.le_refl _), va_up_ne _ _ (by decide)]
        · rw [if_neg hc]
          exact KM.rf
    dsimp only
    split
    · exact hF.tr (KM.so rfl)
    · exact hF
  cases hm : mLast s1 t1 with
  | none => exact hC
  | some m =>
    obtain ⟨-, hM, hge, -, -⟩ := mLast_some hD1 hm
    have h7 := hM.2.2.2.1.2
    dsimp only
    split
    · exact hC
    rename_i h70
    have hpos := nv_pos hM.2.2.2.1 h70
    have hf : nv (t1 7 m) - 1 < 30 := by omega
    split
    · refine hC.tr ?_
      unfold mReadTimes
      split
      · split
        · exact KM.rf
        · dsimp only
          split
          · exact KM.so mLies_12
          · exact KM.tr (KM.so (s' := upd s1 27 1) rfl) (KM_tl hge hf (by decide))
      · exact KM.rf
    split
    · refine hC.tr ?_
      unfold mReadGroup
      split
      · split
        · exact KM.rf
        · exact KM_tl hge hf (by decide)
      · exact KM.rf
    split
    · refine hC.tr ?_
      unfold mReadPic
      split
      · split
        · exact KM.rf
        · exact KM.tr (KM.so (s' := upd s1 19 1) rfl) (((KM_tl hge hf (by decide)).tr (KM_tl hge hf (by decide))).tr (KM_tl hge hf (by decide)))
      · exact KM.rf
    split
    · refine hC.tr ?_
      unfold mReadMarks
      split
      · split
        · exact KM.rf
        · exact KM_tl hge hf (by decide)
      · exact KM.rf
    split
    · refine hC.tr ?_
      unfold mReadCur
      split
      · exact KM.rf
      · exact KM_tl hge hf (by decide)
    · refine hC.tr ?_
      unfold mReadTxt
      split
      · split
        · exact (KM_tl hge hf (by decide)).tr (KM_tl hge hf (by decide))
        · exact KM.rf
      · exact KM.rf
theorem KM_lp {n : Nat} (hn : n ≤ 3000) : ∀ (r p l : Nat) {s : Nat → Int32} {t : Nat → Nat → Int32}, p ≤ n + 1 → DI s t → KM (nv (s 10)) s (mLp n r p l s t).2.1 t (mLp n r p l s t).2.2
  | 0, p, l, s, t, _, h => KM.rf
  | r + 1, p, l, s, t, hp, h => by
    rw [mLp]
    split
    · rename_i hc
      have := mEol_ge (t 1) (n - p) p
      have e : (mLine s t p (mEol (t 1) (n - p) p)).2.1 10 = s 10 := Ke_line.1
      have h2 := KM_lp hn r (mEol (t 1) (n - p) p + 1) (l + 1) (by omega) (DI_s (s' := upd (mLine s t p (mEol (t 1) (n - p) p)).2.1 11 (mLine s t p (mEol (t 1) (n - p) p)).1) rfl (DI_line h (by omega)))
      have e2 : upd (mLine s t p (mEol (t 1) (n - p) p)).2.1 11 (mLine s t p (mEol (t 1) (n - p) p)).1 10 = s 10 := e
      rw [e2] at h2
      exact ((KM_line h).tr (KM.so rfl)).tr h2
    · exact KM.rf
/-- a fault is never below 0 -/
theorem mLp_ge {n : Nat} : ∀ (r p l : Nat) {s : Nat → Int32} {t : Nat → Nat → Int32}, 0 ≤ s 11 → 0 ≤ (mLp n r p l s t).2.1 11
  | 0, p, l, s, t, h => h
  | r + 1, p, l, s, t, h => by
    rw [mLp]
    split
    · exact mLp_ge r _ _ (mLine_ge s t p _)
    · exact h
theorem mLp_le {n : Nat} : ∀ (r p l : Nat) {s : Nat → Int32} {t : Nat → Nat → Int32}, l ≤ (mLp n r p l s t).1 ∧ (mLp n r p l s t).1 ≤ l + r
  | 0, p, l, s, t => ⟨Nat.le_refl _, Nat.le_refl _⟩
  | r + 1, p, l, s, t => by
    rw [mLp]
    split
    · have := mLp_le (n := n) r (mEol (t 1) (n - p) p + 1) (l + 1) (s := upd (mLine s t p (mEol (t 1) (n - p) p)).2.1 11 (mLine s t p (mEol (t 1) (n - p) p)).1) (t := (mLine s t p (mEol (t 1) (n - p) p)).2.2)
      omega
    · exact ⟨Nat.le_refl _, Nat.le_add_right _ _⟩
/-- where there is a fault there is a line -/
theorem mLp_l {n : Nat} : ∀ (r p l : Nat) {s : Nat → Int32} {t : Nat → Nat → Int32}, s 11 = 0 → ¬ (mLp n r p l s t).2.1 11 = 0 → l < (mLp n r p l s t).1
  | 0, p, l, s, t, h, h2 => absurd h h2
  | r + 1, p, l, s, t, h, h2 => by
    rw [mLp] at h2 ⊢
    split
    · have := mLp_le (n := n) r (mEol (t 1) (n - p) p + 1) (l + 1) (s := upd (mLine s t p (mEol (t 1) (n - p) p)).2.1 11 (mLine s t p (mEol (t 1) (n - p) p)).1) (t := (mLine s t p (mEol (t 1) (n - p) p)).2.2)
      omega
    · rename_i hc
      rw [if_neg hc] at h2
      exact absurd h h2
theorem mCp_lt {x y : Nat → Int32} {o : Nat} : ∀ {n i : Nat}, i < o → mCp x o y n i = y i
  | 0, i, _ => rfl
  | n + 1, i, h => by rw [mCp, pk_un (by omega)]; exact mCp_lt h
theorem mCp_at {x y : Nat → Int32} {o : Nat} : ∀ {n k : Nat}, k < n → mCp x o y n (o + k) = x k
  | 0, k, h => absurd h (Nat.not_lt_zero _)
  | n + 1, k, h => by
    rw [mCp]
    by_cases hk : k = n
    · rw [hk, pk_us]
    · rw [pk_un (by omega)]
      exact mCp_at (by omega)
end KMS
