/-! WHAT A LINE KEEPS: the numbers stay within their bounds -/
theorem ps_ex {x : Int32} {n : Nat} (h : ps x n) : ∃ a, a ≤ n ∧ x = nI a := ⟨nv x, h.2, h.1⟩
theorem ps_of {x : Int32} {k : Nat} (hk : k < 2 ^ 31) (h0 : 0 ≤ x) (h1 : x ≤ nI k) : ps x k := by
  obtain ⟨j, hj, rfl⟩ := nI_of2 (M := nI k) (n := k) (nI_toInt hk) (Int32.not_lt.mpr h0) h1
  exact ps.nI hj hk
theorem ps_le {x : Int32} {n k : Nat} (h : ps x n) (hn : n < 2 ^ 31) (hk : k < 2 ^ 31) : x ≤ nI k ↔ nv x ≤ k := by
  obtain ⟨a, ha, rfl⟩ := ps_ex h
  rw [nv_nI (by omega)]
  exact nI_leI (by omega) hk
theorem ps_ge {x : Int32} {n k : Nat} (h : ps x n) (hn : n < 2 ^ 31) (hk : k < 2 ^ 31) : nI k ≤ x ↔ k ≤ nv x := by
  obtain ⟨a, ha, rfl⟩ := ps_ex h
  rw [nv_nI (by omega)]
  exact nI_leI hk (by omega)
theorem ps.up {x : Int32} {n k : Nat} (h : ps x n) (hk : n ≤ k) : ps x k := ⟨h.1, by have := h.2; omega⟩
theorem ps.to {x : Int32} {n k : Nat} (h : ps x n) (hk : nv x ≤ k) : ps x k := ⟨h.1, hk⟩
def FF (g : Nat → Int32) : Prop := (∀ w, w < 14 → ps (g w) (fB w)) ∧ 1 ≤ nv (g 2) ∧ 1 ≤ nv (g 5) ∧ (0 < nv (g 0) → 1 ≤ nv (g 3)) ∧ (nv (g 7) = 0 ∨ nv (g 7) < nv (g 3)) ∧ nv (g 12) + nv (g 13) ≤ 18000 ∧ nv (g 13) ≤ nv (g 3) ∧ nv (g 2) + (nv (g 3) + 1) * nv (g 5) ≤ 81
theorem FldI_FF {t : Nat → Nat → Int32} {m f : Nat} : FldI t m f ↔ FF (fun w => t 8 (fI m f w)) := Iff.rfl
theorem FF_congr {g g' : Nat → Int32} (h : ∀ w, w < 14 → g' w = g w) (hF : FF g) : FF g' := by
  obtain ⟨h1, h2⟩ := hF
  refine ⟨fun w hw => by rw [h w hw]; exact h1 w hw, ?_⟩
  rw [h 2 (by decide), h 5 (by decide), h 0 (by decide), h 3 (by decide), h 7 (by decide), h 12 (by decide), h 13 (by decide)]
  exact h2
theorem fI_inj {m f w m' f' w' : Nat} (hf : f < 30) (hw : w < 14) (hf' : f' < 30) (hw' : w' < 14) (h : fI m f w = fI m' f' w') : m = m' ∧ f = f' ∧ w = w' := by
  unfold fI at h
  omega
theorem mTl_8 {t : Nat → Nat → Int32} {m f w w' : Nat} {v : Int32} : mTl t m f w v 8 (fI m f w') = upd (fun w => t 8 (fI m f w)) w v w' := by
  unfold mTl
  rw [va_up_self]
  by_cases h : w' = w
  · subst h
    rw [pk_us, pk_us]
  · rw [pk_un h, pk_un (by unfold fI; omega)]
theorem mTl_8ne {t : Nat → Nat → Int32} {m f w m' f' w' : Nat} {v : Int32} (hf : f < 30) (hw : w < 14) (hf' : f' < 30) (hw' : w' < 14) (h : ¬ (m' = m ∧ f' = f)) : mTl t m f w v 8 (fI m' f' w') = t 8 (fI m' f' w') := by
  unfold mTl
  rw [va_up_self, pk_un]
  intro hz
  obtain ⟨h1, h2, -⟩ := fI_inj hf' hw' hf hw hz
  exact h ⟨h1, h2⟩
theorem mTl_ne {t : Nat → Nat → Int32} {m f w j : Nat} {v : Int32} (h : j ≠ 8) : mTl t m f w v j = t j := va_up_ne _ _ h
/-- an edition -/
def Dr (t : Nat → Nat → Int32) (e : Nat) : Prop := ps (t 3 e) 8 ∧ ∀ k, k < nv (t 3 e) → MapI t (8 * e + k)
/-- while a text is read -/
def DI (s : Nat → Int32) (t : Nat → Nat → Int32) : Prop := ps (s 10) 5 ∧ (∀ e, e ≤ nv (s 10) → Dr t e) ∧ ∀ j, j < 6 → ps (t 9 j) 9999
theorem DI_s {s s' : Nat → Int32} {t : Nat → Nat → Int32} (h : s' 10 = s 10) (hD : DI s t) : DI s' t := by
  unfold DI at hD ⊢
  rw [h]
  exact hD
theorem mLast_some {s : Nat → Int32} {t : Nat → Nat → Int32} {m : Nat} (hD : DI s t) (h : mLast s t = some m) : m < 48 ∧ MapI t m ∧ 8 * nv (s 10) ≤ m ∧ m < 8 * nv (s 10) + nv (t 3 (nv (s 10))) ∧ m + 1 = 8 * nv (s 10) + nv (t 3 (nv (s 10))) := by
  unfold mLast at h
  split at h
  · cases h
  · rename_i h0
    obtain ⟨h1, h2⟩ := hD.2.1 (nv (s 10)) (Nat.le_refl _)
    have h3 := nv_pos h1 h0
    have h4 := h1.2
    have h5 := hD.1.2
    obtain rfl := Option.some.inj h
    have h6 := h2 (nv (t 3 (nv (s 10))) - 1) (by omega)
    rw [show 8 * nv (s 10) + (nv (t 3 (nv (s 10))) - 1) = 8 * nv (s 10) + nv (t 3 (nv (s 10))) - 1 by omega] at h6
    exact ⟨by omega, h6, by omega, by omega, by omega⟩
theorem MapI_congr {t t' : Nat → Nat → Int32} {m : Nat} (hj : ∀ j, 4 ≤ j → j ≤ 7 → t' j m = t j m) (h8 : ∀ f w, f < 30 → w < 14 → t' 8 (fI m f w) = t 8 (fI m f w)) (h : MapI t m) : MapI t' m := by
  obtain ⟨h4, h5, h6, h7, hf⟩ := h
  unfold MapI
  rw [hj 4 (by decide) (by decide), hj 5 (by decide) (by decide), hj 6 (by decide) (by decide), hj 7 (by decide) (by decide)]
  exact ⟨h4, h5, h6, h7, fun f hlt => FldI_FF.mpr (FF_congr (fun w hw => h8 f w (by have := h7.2; omega) hw) (FldI_FF.mp (hf f hlt)))⟩
theorem DI_fld {s : Nat → Int32} {t t' : Nat → Nat → Int32} {m f : Nat} (hD : DI s t) (hj : ∀ j, j ≠ 7 → j ≠ 8 → t' j = t j) (h7 : ∀ M, M ≠ m → t' 7 M = t 7 M) (h7m : ps (t' 7 m) 30) (h7f : ∀ g, g < nv (t' 7 m) → g ≠ f → g < nv (t 7 m)) (h8 : ∀ m' f' w', f' < 30 → w' < 14 → ¬ (m' = m ∧ f' = f) → t' 8 (fI m' f' w') = t 8 (fI m' f' w')) (hF : FldI t' m f) : DI s t' := by
  obtain ⟨hE, hDr, hN⟩ := hD
  refine ⟨hE, fun e he => ?_, fun j h => by rw [hj 9 (by decide) (by decide)]; exact hN j h⟩
  obtain ⟨h1, h2⟩ := hDr e he
  unfold Dr
  rw [hj 3 (by decide) (by decide)]
  refine ⟨h1, fun k hk => ?_⟩
  have hM := h2 k hk
  by_cases hm : 8 * e + k = m
  · rw [hm] at hM ⊢
    obtain ⟨a4, a5, a6, a7, af⟩ := hM
    unfold MapI
    rw [hj 4 (by decide) (by decide), hj 5 (by decide) (by decide), hj 6 (by decide) (by decide)]
    refine ⟨a4, a5, a6, h7m, fun g hg => ?_⟩
    by_cases hgf : g = f
    · rw [hgf]
      exact hF
    · exact FldI_FF.mpr (FF_congr (fun w hw => h8 m g w (by have := h7m.2; omega) hw (fun z => hgf z.2)) (FldI_FF.mp (af g (h7f g hg hgf))))
  · refine MapI_congr (fun j ha hb => ?_) (fun f' w' hf' hw' => h8 _ f' w' hf' hw' (fun z => hm z.1)) hM
    by_cases hj7 : j = 7
    · subst hj7
      exact h7 _ hm
    · rw [hj j hj7 (by omega)]
/-- one number of the latest field is told -/
theorem DI_tl {s : Nat → Int32} {t t' : Nat → Nat → Int32} {m f : Nat} (hD : DI s t) (hM : MapI t m) (hf : f < 30) (hj : ∀ j, j ≠ 8 → t' j = t j) (h8 : ∀ m' f' w', f' < 30 → w' < 14 → ¬ (m' = m ∧ f' = f) → t' 8 (fI m' f' w') = t 8 (fI m' f' w')) (hF : FF (fun w => t' 8 (fI m f w))) : DI s t' :=
  DI_fld (m := m) (f := f) hD (fun j _ h => hj j h) (fun M _ => by rw [hj 7 (by decide)]) (by rw [hj 7 (by decide)]; exact hM.2.2.2.1) (fun g hg _ => by rw [hj 7 (by decide)] at hg; exact hg) h8 (FldI_FF.mpr hF)
/-! the cut -/
theorem mPd_ps (x : Nat → Int32) (q : Nat) : ∀ (r p a : Nat), (a + 1) * 10 ^ r < 2 ^ 31 → ps (mPd x q r p (nI a)).2 ((a + 1) * 10 ^ r - 1)
  | 0, p, a, h => by
    rw [mPd, Nat.pow_zero, Nat.mul_one, Nat.add_sub_cancel]
    exact ps.nI (Nat.le_refl _) (by omega)
  | r + 1, p, a, h => by
    rw [mPd]
    rw [Nat.pow_succ] at h ⊢
    have hp : 1 ≤ 10 ^ r := Nat.pow_pos (by decide)
    have hm : a + 1 ≤ (a + 1) * (10 ^ r * 10) := Nat.le_mul_of_pos_right _ (by omega)
    split
    · rename_i hc
      obtain ⟨c, hc1, hc2⟩ := ps_ex (ps_of (k := 57) (by decide) (Int32.le_trans (by decide) hc.2.1) hc.2.2)
      have hc3 := hc.2.1
      rw [hc2] at hc3 ⊢
      have hc4 : 48 ≤ c := (nI_leI (a := 48) (by decide) (by omega)).mp hc3
      have e : (10 : Int32) * nI a + nI c - 48 = nI (10 * a + c - 48) := by
        rw [show (10 : Int32) = nI 10 from rfl, pk_mul, nI_add, show (48 : Int32) = nI 48 from rfl, pk_sub (by omega)]
      rw [e]
      have hle : (10 * a + c - 48 + 1) * 10 ^ r ≤ (a + 1) * (10 ^ r * 10) := by
        calc (10 * a + c - 48 + 1) * 10 ^ r ≤ ((a + 1) * 10) * 10 ^ r := Nat.mul_le_mul_right _ (by omega)
          _ = (a + 1) * (10 ^ r * 10) := by rw [Nat.mul_assoc, Nat.mul_comm 10]
      have ih := mPd_ps x q r (p + 1) (10 * a + c - 48) (by omega)
      exact ih.up (by omega)
    · exact ps.nI (by omega) (by omega)
theorem mNs_ps (x : Nat → Int32) (q : Nat) : ∀ (r p n : Nat) (g : Nat → Int32), (∀ j, j < 6 → ps (g j) 9999) → ∀ j, j < 6 → ps ((mNs x q r p n g).2.2 j) 9999
  | 0, p, n, g, h => h
  | r + 1, p, n, g, h => by
    rw [mNs]
    split
    · split
      · exact h
      · split
        · exact h
        · split
          · exact h
          · refine mNs_ps x q r _ _ _ (fun j hj => ?_)
            by_cases hn : j = n
            · subst hn
              rw [pk_us]
              exact mPd_ps x q 4 _ 0 (by decide)
            · rw [pk_un hn]
              exact h j hj
    · exact h
theorem mCut_9 (s : Nat → Int32) (t : Nat → Nat → Int32) (p q : Nat) (h : ∀ j, j < 6 → ps (t 9 j) 9999) : ∀ j, j < 6 → ps ((mCut s t p q).2.2 9 j) 9999 := by
  unfold mCut
  dsimp only
  split
  · exact h
  · split
    · exact h
    · dsimp only
      rw [va_up_self]
      exact mNs_ps _ _ _ _ _ _ h
theorem mCut_I (s : Nat → Int32) (t : Nat → Nat → Int32) (p q : Nat) (h : (mCut s t p q).1 = 73) : ∃ a, a < q ∧ (mCut s t p q).2.1 17 = nI a ∧ (mCut s t p q).2.1 18 = nI q := by
  unfold mCut at h ⊢
  dsimp only at h ⊢
  split at h
  · cases h
  · rename_i h1
    rw [if_neg h1]
    split at h
    · rename_i h2
      rw [if_pos h2]
      dsimp only at h ⊢
      split at h
      · rename_i h3
        exact ⟨_, h3.2.2, rfl, rfl⟩
      · cases h
    · rename_i h2
      dsimp only at h
      split at h
      · exact absurd h h2
      · cases h
theorem DI_cut {s : Nat → Int32} {t : Nat → Nat → Int32} {p q : Nat} (hD : DI s t) : DI (mCut s t p q).2.1 (mCut s t p q).2.2 := by
  refine DI_s (mCut_10 s t p q) ⟨hD.1, fun e he => ?_, mCut_9 s t p q hD.2.2⟩
  obtain ⟨h1, h2⟩ := hD.2.1 e he
  unfold Dr
  rw [mCut_t _ _ _ _ (by decide)]
  exact ⟨h1, fun k hk => MapI_congr (fun j ha hb => by rw [mCut_t _ _ _ _ (by omega)]) (fun f w _ _ => by rw [mCut_t _ _ _ _ (by decide)]) (h2 k hk)⟩
