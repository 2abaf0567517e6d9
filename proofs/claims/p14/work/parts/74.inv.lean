/-- a number of a field is told -/
theorem FF_upd {g : Nat → Int32} {w n : Nat} (hF : FF g) (hn : n ≤ fB w) (hb : fB w < 2 ^ 31) (h2 : w ≠ 2) (h0 : w ≠ 0) (h3 : w ≠ 3) (h5 : w = 5 → 1 ≤ n ∧ nv (g 2) + (nv (g 3) + 1) * n ≤ 81) (h7 : w = 7 → n = 0 ∨ n < nv (g 3)) (h12 : w = 12 → n + nv (g 13) ≤ 18000) (h13 : w = 13 → nv (g 12) + n ≤ 18000 ∧ n ≤ nv (g 3)) : FF (upd g w (nI n)) := by
  obtain ⟨a1, a2, a3, a4, a5, a6, a7, a8⟩ := hF
  have hv : nv (nI n) = n := nv_nI (by omega)
  have U : ∀ j, upd g w (nI n) j = if j = w then nI n else g j := fun j => rfl
  refine ⟨fun j hj => ?_, ?_, ?_, ?_, ?_, ?_, ?_, ?_⟩
  · by_cases h : j = w
    · subst h
      rw [pk_us]
      exact ps.nI hn hb
    · rw [pk_un h]
      exact a1 j hj
  · rw [pk_un (Ne.symm h2)]; exact a2
  · by_cases h : (5 : Nat) = w
    · subst h
      rw [pk_us, hv]; exact (h5 rfl).1
    · rw [pk_un h]; exact a3
  · rw [pk_un (Ne.symm h0), pk_un (Ne.symm h3)]; exact a4
  · rw [pk_un (Ne.symm h3)]
    by_cases h : (7 : Nat) = w
    · subst h
      rw [pk_us, hv]; exact h7 rfl
    · rw [pk_un h]; exact a5
  · by_cases h : (12 : Nat) = w
    · subst h
      rw [pk_us, hv, pk_un (by decide)]; exact h12 rfl
    · rw [pk_un h]
      by_cases h' : (13 : Nat) = w
      · subst h'
        rw [pk_us, hv]; exact (h13 rfl).1
      · rw [pk_un h']; exact a6
  · rw [pk_un (Ne.symm h3)]
    by_cases h' : (13 : Nat) = w
    · subst h'
      rw [pk_us, hv]; exact (h13 rfl).2
    · rw [pk_un h']; exact a7
  · rw [pk_un (Ne.symm h2), pk_un (Ne.symm h3)]
    by_cases h : (5 : Nat) = w
    · subst h
      rw [pk_us, hv]; exact (h5 rfl).2
    · rw [pk_un h]; exact a8
theorem DI_tl1 {s : Nat → Int32} {t : Nat → Nat → Int32} {m f w n : Nat} (hD : DI s t) (hM : MapI t m) (hf : f < nv (t 7 m)) (hw : w < 14) (hF : FF (upd (fun w => t 8 (fI m f w)) w (nI n))) : DI s (mTl t m f w (nI n)) := by
  have hf30 : f < 30 := by have := hM.2.2.2.1.2; omega
  refine DI_tl hD hM hf30 (fun j hj => mTl_ne hj) (fun m' f' w' a b c => mTl_8ne hf30 hw a b c) (FF_congr (fun w' _ => ?_) hF)
  exact mTl_8
theorem DI_times {s : Nat → Int32} {t : Nat → Nat → Int32} {m f : Nat} (hD : DI s t) (hM : MapI t m) (hf : f < nv (t 7 m)) : DI (mReadTimes s t m f).2.1 (mReadTimes s t m f).2.2 := by
  unfold mReadTimes
  split
  · rename_i hc
    split
    · exact hD
    · dsimp only
      split
      · exact DI_s mLies_10 hD
      · rename_i hl
        refine DI_s (s := s) rfl ?_
        have hF := FldI_FF.mp (hM.2.2.2.2 f hf)
        obtain ⟨n, hn, e⟩ := ps_ex (ps_of (k := 20) (by decide) (Int32.le_trans (by decide) hc.1) hc.2)
        have hle := mLies_bd hl
        rw [e]
        rw [e] at hle hc
        refine DI_tl1 hD hM hf (by decide) (FF_upd hF hn (by decide) (by decide) (by decide) (by decide) (fun _ => ⟨(nI_leI (a := 1) (by decide) (by omega)).mp hc.1, ?_⟩) (fun h => absurd h (by decide)) (fun h => absurd h (by decide)) (fun h => absurd h (by decide)))
        obtain ⟨a2, b2, e2⟩ := ps_ex (hF.1 2 (by decide))
        obtain ⟨a3, b3, e3⟩ := ps_ex (hF.1 3 (by decide))
        obtain ⟨c6, d6, f6⟩ := ps_ex hM.2.2.1
        have b2 : a2 ≤ 80 := b2
        have b3 : a3 ≤ 80 := b3
        have l2 := hF.2.1
        dsimp only at e2 e3 l2 ⊢
        rw [e2, nv_nI (by omega)] at l2
        rw [e2, e3, f6] at hle
        rw [e2, e3, nv_nI (by omega), nv_nI (by omega)]
        have := lie_bd l2 (by omega) (by omega) (by omega) d6 hle
        omega
  · exact hD
theorem DI_group {s : Nat → Int32} {t : Nat → Nat → Int32} {m f : Nat} (hD : DI s t) (hM : MapI t m) (hf : f < nv (t 7 m)) : DI s (mReadGroup t m f).2 := by
  unfold mReadGroup
  split
  · rename_i hc
    split
    · exact hD
    · obtain ⟨n, hn, e⟩ := ps_ex (ps_of (k := 99) (by decide) (Int32.le_trans (by decide) hc.1) hc.2)
      dsimp only
      rw [e]
      exact DI_tl1 hD hM hf (by decide) (FF_upd (FldI_FF.mp (hM.2.2.2.2 f hf)) hn (by decide) (by decide) (by decide) (by decide) (fun h => absurd h (by decide)) (fun h => absurd h (by decide)) (fun h => absurd h (by decide)) (fun h => absurd h (by decide)))
  · exact hD
theorem DI_marks {s : Nat → Int32} {t : Nat → Nat → Int32} {m f : Nat} (hD : DI s t) (hM : MapI t m) (hf : f < nv (t 7 m)) : DI s (mReadMarks t m f).2 := by
  unfold mReadMarks
  split
  · rename_i hc
    split
    · exact hD
    · obtain ⟨n, hn, e⟩ := ps_ex (ps_of (k := 3) (by decide) (Int32.le_trans (by decide) hc.1) hc.2)
      dsimp only
      rw [e]
      exact DI_tl1 hD hM hf (by decide) (FF_upd (FldI_FF.mp (hM.2.2.2.2 f hf)) hn (by decide) (by decide) (by decide) (by decide) (fun h => absurd h (by decide)) (fun h => absurd h (by decide)) (fun h => absurd h (by decide)) (fun h => absurd h (by decide)))
  · exact hD
theorem DI_cur {s : Nat → Int32} {t : Nat → Nat → Int32} {m f : Nat} (hD : DI s t) (hM : MapI t m) (hf : f < nv (t 7 m)) : DI s (mReadCur t m f).2 := by
  unfold mReadCur
  cases sr (mCurP t m) (f + 1) 0 with
  | some _ => exact hD
  | none => exact DI_tl1 (n := 1) hD hM hf (by decide) (FF_upd (FldI_FF.mp (hM.2.2.2.2 f hf)) (by decide) (by decide) (by decide) (by decide) (by decide) (fun h => absurd h (by decide)) (fun h => absurd h (by decide)) (fun h => absurd h (by decide)) (fun h => absurd h (by decide)))
/-- a map's field, after one number was told -/
theorem MapI_tl {t : Nat → Nat → Int32} {m f w n : Nat} (hM : MapI t m) (hf : f < nv (t 7 m)) (hw : w < 14) (hF : FF (upd (fun w => t 8 (fI m f w)) w (nI n))) : MapI (mTl t m f w (nI n)) m := by
  obtain ⟨a4, a5, a6, a7, af⟩ := hM
  have a7' := a7.2
  unfold MapI
  rw [mTl_ne (by decide), mTl_ne (by decide), mTl_ne (by decide), mTl_ne (by decide)]
  refine ⟨a4, a5, a6, a7, fun g hg => ?_⟩
  by_cases h : g = f
  · rw [h]
    exact FldI_FF.mpr (FF_congr (fun _ _ => mTl_8) hF)
  · exact FldI_FF.mpr (FF_congr (fun w' hw' => mTl_8ne (by omega) hw (by omega) hw' (fun z => h z.2)) (FldI_FF.mp (af g hg)))
theorem DI_pic {s : Nat → Int32} {t : Nat → Nat → Int32} {m f : Nat} (hD : DI s t) (hM : MapI t m) (hf : f < nv (t 7 m)) : DI (mReadPic s t m f).2.1 (mReadPic s t m f).2.2 := by
  unfold mReadPic
  split
  · rename_i hc
    split
    · exact hD
    · refine DI_s (s := s) rfl ?_
      dsimp only
      have hF := FldI_FF.mp (hM.2.2.2.2 f hf)
      obtain ⟨a0, b0, e0⟩ := ps_ex (hD.2.2 0 (by decide))
      obtain ⟨a1, b1, e1⟩ := ps_ex (hD.2.2 1 (by decide))
      obtain ⟨a2, b2, e2⟩ := ps_ex (hD.2.2 2 (by decide))
      obtain ⟨a3, b3, e3⟩ := ps_ex (hF.1 3 (by decide))
      have b3 : a3 ≤ 80 := b3
      dsimp only at e3
      obtain ⟨k0, k1, k2, k3⟩ := hc
      rw [e0] at k0 k1
      rw [e3] at k1
      rw [e1] at k2
      rw [e2] at k3
      have k0 := (nI_leI (b := 9) (by omega) (by decide)).mp k0
      have k1 := (nI_ltI (by omega) (by omega)).mp k1
      have k2 := (nI_leI (b := 1) (by omega) (by decide)).mp k2
      have k3 := (nI_leI (b := 1) (by omega) (by decide)).mp k3
      rw [e0, e1, e2]
      have F1 := FF_upd (w := 7) (n := a0) hF k0 (by decide) (by decide) (by decide) (by decide) (fun h => absurd h (by decide)) (fun _ => Or.inr (show a0 < nv (t 8 (fI m f 3)) by rw [e3, nv_nI (by omega)]; exact k1)) (fun h => absurd h (by decide)) (fun h => absurd h (by decide))
      have D1 := DI_tl1 hD hM hf (by decide) F1
      have M1 := MapI_tl hM hf (by decide) F1
      have hf1 : f < nv (mTl t m f 7 (nI a0) 7 m) := by rw [mTl_ne (by decide)]; exact hf
      have F2 := FF_upd (w := 10) (n := a1) (FldI_FF.mp (M1.2.2.2.2 f hf1)) k2 (by decide) (by decide) (by decide) (by decide) (fun h => absurd h (by decide)) (fun h => absurd h (by decide)) (fun h => absurd h (by decide)) (fun h => absurd h (by decide))
      have D2 := DI_tl1 D1 M1 hf1 (by decide) F2
      have M2 := MapI_tl M1 hf1 (by decide) F2
      have hf2 : f < nv (mTl (mTl t m f 7 (nI a0)) m f 10 (nI a1) 7 m) := by rw [mTl_ne (by decide)]; exact hf1
      have F3 := FF_upd (w := 11) (n := a2) (FldI_FF.mp (M2.2.2.2.2 f hf2)) k3 (by decide) (by decide) (by decide) (by decide) (fun h => absurd h (by decide)) (fun h => absurd h (by decide)) (fun h => absurd h (by decide)) (fun h => absurd h (by decide))
      exact DI_tl1 D2 M2 hf2 (by decide) F3
  · exact hD
theorem DI_txt {s : Nat → Int32} {t : Nat → Nat → Int32} {m f a q : Nat} (hD : DI s t) (hM : MapI t m) (hf : f < nv (t 7 m)) (haq : a < q) (hq : q ≤ 3000) (h17 : s 17 = nI a) (h18 : s 18 = nI q) : DI s (mReadTxt s t m f).2 := by
  unfold mReadTxt
  split
  · rename_i hc
    split
    · rename_i hz
      dsimp only
      have hF := FldI_FF.mp (hM.2.2.2.2 f hf)
      have hE := hD.1.2
      rw [h17, h18, pk_sub (by omega)] at hc ⊢
      rw [hD.1.1, show (3000 : Int32) = nI 3000 from rfl, pk_mul, nI_add]
      obtain ⟨a3, b3, e3⟩ := ps_ex (hF.1 3 (by decide))
      obtain ⟨a13, b13, e13⟩ := ps_ex (hF.1 13 (by decide))
      have b3 : a3 ≤ 80 := b3
      have b13 : a13 ≤ 80 := b13
      dsimp only at e3 e13
      rw [e3] at hc
      rw [e13] at hz
      have hz : a13 = 0 := by
        have := (nI_leI (b := 0) (by omega) (by decide)).mp hz
        omega
      have hc := (nI_leI (by omega) (by omega)).mp hc
      have F1 := FF_upd (w := 12) (n := 3000 * nv (s 10) + a) hF (show _ ≤ 18000 by omega) (by decide) (by decide) (by decide) (by decide) (fun h => absurd h (by decide)) (fun h => absurd h (by decide)) (fun _ => show _ + nv (t 8 (fI m f 13)) ≤ _ by rw [e13, nv_nI (by omega)]; omega) (fun h => absurd h (by decide))
      have D1 := DI_tl1 hD hM hf (by decide) F1
      have M1 := MapI_tl hM hf (by decide) F1
      have hf1 : f < nv (mTl t m f 12 (nI (3000 * nv (s 10) + a)) 7 m) := by rw [mTl_ne (by decide)]; exact hf
      have F2 := FF_upd (w := 13) (n := q - a) (FldI_FF.mp (M1.2.2.2.2 f hf1)) (show _ ≤ 80 by omega) (by decide) (by decide) (by decide) (by decide) (fun h => absurd h (by decide)) (fun h => absurd h (by decide)) (fun h => absurd h (by decide)) (fun _ => by
        rw [mTl_8, mTl_8, pk_us, pk_un (by decide), nv_nI (by omega), e3, nv_nI (by omega)]
        omega)
      exact DI_tl1 D1 M1 hf1 (by decide) F2
    · exact hD
  · exact hD
theorem mDue_m1 {w : Int32} (h77 : ¬ w = 77) (h80 : ¬ w = 80) (h70 : ¬ w = 70) (h79 : ¬ w = 79) (h71 : ¬ w = 71) (h86 : ¬ w = 86) (h67 : ¬ w = 67) : mDue w = -1 := by
  unfold mDue
  rw [if_neg (fun z => z.elim h77 h80), if_neg h70, if_neg (fun z => z.elim h79 (fun z => z.elim h71 h86)), if_neg h67]
theorem mNs_n (x : Nat → Int32) (q : Nat) : ∀ (r p n : Nat) (g : Nat → Int32), n ≤ 6 → (mNs x q r p n g).2.1 ≤ 6
  | 0, p, n, g, h => h
  | r + 1, p, n, g, h => by
    rw [mNs]
    split
    · split
      · exact h
      · split
        · exact h
        · rename_i hn
          split
          · exact h
          · refine mNs_n x q r _ _ _ ?_
            have : ¬ n = 6 := fun z => hn (Or.inr z)
            omega
    · exact h
theorem mCut_w (s : Nat → Int32) (t : Nat → Nat → Int32) (p q : Nat) (h0 : ¬ (mCut s t p q).1 ≤ 0) (h77 : ¬ (mCut s t p q).1 = 77) (h80 : ¬ (mCut s t p q).1 = 80) (h70 : ¬ (mCut s t p q).1 = 70) (h79 : ¬ (mCut s t p q).1 = 79) (h71 : ¬ (mCut s t p q).1 = 71) (h86 : ¬ (mCut s t p q).1 = 86) (h67 : ¬ (mCut s t p q).1 = 67) : (mCut s t p q).1 = 73 := by
  unfold mCut at *
  dsimp only at *
  split at h0
  · exact absurd (show (0 : Int32) ≤ 0 by decide) h0
  · rename_i hc1
    rw [if_neg hc1] at *
    split at h0
    · rename_i hc2
      rw [if_pos hc2] at *
      dsimp only at *
      split at h0
      · rename_i hc3
        rw [if_pos hc3]
      · exact absurd (by decide) h0
    · rename_i hc2
      rw [if_neg hc2] at *
      dsimp only at *
      split at h0
      · rename_i hc3
        rw [if_pos hc3] at *
        exfalso
        have h1 := hc3.2
        rw [mDue_m1 h77 h80 h70 h79 h71 h86 h67] at h1
        have h2 := mNs_n (t 1) q (q - mSk (t 1) (q - p) p) (mSk (t 1) (q - p) p + 1) 0 (t 9) (by decide)
        have h3 := nI_pos' (n := (mNs (t 1) q (q - mSk (t 1) (q - p) p) (mSk (t 1) (q - p) p + 1) 0 (t 9)).2.1) (by omega)
        rw [h1] at h3
        exact absurd h3 (by decide)
      · exact absurd (by decide) h0
theorem DI_line {s : Nat → Int32} {t : Nat → Nat → Int32} {p q : Nat} (hD : DI s t) (hq : q ≤ 3000) : DI (mLine s t p q).2.1 (mLine s t p q).2.2 := by
  unfold mLine
  dsimp only
  have hC := DI_cut (p := p) (q := q) hD
  have hI := mCut_I s t p q
  have hW := mCut_w s t p q
  generalize mCut s t p q = z at hC hI hW ⊢
  obtain ⟨w, s, t⟩ := z
  dsimp only at hC hI hW ⊢
  split
  · exact hC
  split
  · exact DI_map hC
  split
  · have := DI_field (mo := mLast s t) hC (fun m hm => (mLast_some hC hm).2.1)
    split
    · exact DI_s rfl this
    · exact this
  rename_i hw0 w77 w70
  cases hm : mLast s t with
  | none => exact hC
  | some m =>
    dsimp only
    have hM := (mLast_some hC hm).2.1
    split
    · exact hC
    rename_i h7
    have hpos := nv_pos hM.2.2.2.1 h7
    have hf : nv (t 7 m) - 1 < nv (t 7 m) := by omega
    split
    · exact DI_times hC hM hf
    rename_i w79
    split
    · exact DI_group hC hM hf
    rename_i w71
    split
    · exact DI_pic hC hM hf
    rename_i w80
    split
    · exact DI_marks hC hM hf
    rename_i w86
    split
    · exact DI_cur hC hM hf
    rename_i w67
    obtain ⟨a, ha, h17, h18⟩ := hI (hW hw0 w77 w80 w70 w79 w71 w86 w67)
    exact DI_txt hC hM hf ha hq h17 h18
theorem DI_lp {n : Nat} (hn : n ≤ 3000) : ∀ (r p l : Nat) {s : Nat → Int32} {t : Nat → Nat → Int32}, p ≤ n + 1 → DI s t → DI (mLp n r p l s t).2.1 (mLp n r p l s t).2.2
  | 0, p, l, s, t, _, h => h
  | r + 1, p, l, s, t, hp, h => by
    rw [mLp]
    split
    · rename_i hc
      have := mEol_ge (t 1) (n - p) p
      exact DI_lp hn r _ _ (by omega) (DI_s rfl (DI_line h (by omega)))
    · exact h
theorem DI_J {s : Nat → Int32} {t : Nat → Nat → Int32} (h : DI s t) : ps (s 10) 5 ∧ ps (t 3 (nv (s 10))) 8 ∧ ∀ m, mLast s t = some m → ps (t 7 m) 30 := ⟨h.1, (h.2.1 _ (Nat.le_refl _)).1, fun m hm => (mLast_some h hm).2.1.2.2.2.1⟩
