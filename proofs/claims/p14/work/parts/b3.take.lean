section LINE2
variable {V : Prop} {A : Bk} {N n : Nat} {h : im_H} {s : Nat → Int32} {t : Nat → Nat → Int32} {p q : Nat} {Q : Option Value → im_H → Prop}
/-- takeLine -/
theorem c_2 (d : Nat) (hV : V → False) (hD : DI s t) (hR : DR V A N n h s t) (hT : ∀ j, ps (t 1 j) 126) (hpq : p ≤ q) (hq : q ≤ 3000) (hqn : q ≤ n) (k : ∀ A' h', fD N (2 * (q - p)) (40 * (q - p)) h h' → DR V A' N n h' (mLine s t p q).2.1 (mLine s t p q).2.2 → A'.1 = A.1 → Q (some (.int (mLine s t p q).1)) h') : gC (gD (d + 5)) 2 [.ref 5, .ref 1, .int (nI p), .int (nI q)] h Q := by
  have hsl : ∀ {j : Nat}, j ≠ 16 → j ≠ 17 → j ≠ 18 → (mCut s t p q).2.1 j = s j := fun a b c => mCut_s s t p q a b c
  have htl : ∀ j, j ≠ 9 → (mCut s t p q).2.2 j = t j := fun j hj => mCut_t s t p q hj
  have hlt := mCut_lt s t hpq
  have hJ := mCut_J s t p q
  have hW := mCut_w s t p q
  have hD1 := DI_cut (p := p) (q := q) hD
  obtain ⟨o1, o2, h5, -⟩ := hR.2.1
  obtain ⟨⟨b1, b2, w, c, f, q2, h6⟩, ⟨g, h7⟩⟩ := hR.2.2.1
  refine gC.of (q := me_2.2) rfl (Nat.le_of_ble_eq_true rfl) rfl ?_
  refine gG.step (cd := cd_2) rfl (fun _ => rfl) ?_
  refine gG.get rfl (h5) rfl ?_
  iterate 3 refine gG.step rfl (fun _ => rfl) ?_
  refine gG.vir rfl (h6) rfl rfl (Nat.le_of_ble_eq_true rfl) rfl rfl (Nat.le_of_ble_eq_true rfl) ?_
  refine c_321 d (s := s) (t := t) ⟨fr.rf, h6, h7⟩ hR.2.2.2.1 hpq hq _ (fun h1 b1 b2 w c f q2 g hI hS => ?_)
  have hR1 : DR V A N n h1 (mCut s t p q).2.1 (mCut s t p q).2.2 := DR_67 hR hI.1.2.2 ⟨⟨b1, b2, w, c, f, q2, hI.2.1⟩, ⟨g, hI.2.2⟩⟩ (hsl (by decide) (by decide) (by decide)) (hsl (by decide) (by decide) (by decide)) (hsl (by decide) (by decide) (by decide)) (hsl (by decide) (by decide) (by decide)) (hsl (by decide) (by decide) (by decide)) htl
  have hfr := hI.1
  obtain ⟨-, h6, h7⟩ := hI
  clear h5
  unfold mLine at k
  dsimp only at k
  unfold ScR at hS
  have hT1 : ∀ j, ps ((mCut s t p q).2.2 1 j) 126 := fun j => by rw [htl 1 (by decide)]; exact hT j
  generalize mCut s t p q = z at hlt hJ hW hD1 hR1 k hS hT1
  clear hsl htl
  obtain ⟨w0, s1, t1⟩ := z
  dsimp only at hlt hJ hW hD1 hR1 k hS hT1
  obtain ⟨o1, o2, h5, -⟩ := hR1.2.1
  have h5' := h5
  unfold dC at h5'
  show gG _ _ _ _ 10 _ [] h1 Q
  refine gG.step rfl (fun _ => rfl) ?_
  refine gG.get rfl (h5') rfl ?_
  refine gG.get rfl (h6) rfl ?_
  rcases hS with ⟨z0, rfl⟩ | ⟨rfl, rfl, z0⟩ | ⟨rfl, rfl, hw, hpos, hg, hfq⟩
  · subst z0
    refine gG.ifc (tgt := 22) rfl rfl (fun c => absurd c (by decide)) (fun _ => ?_)
    refine gG.step rfl (fun _ => rfl) ?_
    exact gG.done rfl (fun _ => rfl) (k A h1 ((fD.rf (a := 0) (z := 0)).pre hfr (by omega) (by omega)) hR1 rfl)
  · subst z0
    refine gG.ifc (tgt := 22) rfl rfl (fun _ => ?_) (fun c => absurd (by decide) c)
    refine gG.step rfl (fun _ => rfl) ?_
    refine gG.get rfl (h5') rfl ?_
    refine gG.get rfl (h6) rfl ?_
    refine gG.ifc (tgt := 34) rfl rfl (fun c => absurd c (by decide)) (fun _ => ?_)
    refine gG.step rfl (fun _ => rfl) ?_
    exact gG.done rfl (fun _ => rfl) (k A h1 ((fD.rf (a := 0) (z := 0)).pre hfr (by omega) (by omega)) hR1 rfl)
  subst hw
  have hlt := hlt hpos
  simp only [if_neg hpos] at k
  refine gG.ifc (tgt := 22) rfl rfl (fun _ => ?_) (fun c => absurd (by decide) c)
  refine gG.step rfl (fun _ => rfl) ?_
  refine gG.get rfl (h5') rfl ?_
  refine gG.get rfl (h6) rfl ?_
  refine gG.ifc (tgt := 34) rfl rfl (fun _ => ?_) (fun c => absurd (by decide) c)
  refine gG.step rfl (fun _ => rfl) ?_
  refine gG.get rfl (h5') rfl ?_
  refine gG.get rfl (h6) rfl ?_
  refine gG.step rfl (fun _ => rfl) ?_
  have hLN : LN h1 g w f q2 := ⟨⟨_, _, _, h6⟩, h7⟩
  by_cases h77 : w = 77
  · subst h77
    refine gG.icmp (tgt := 51) rfl rfl (fun c => absurd c (by decide)) (fun _ => ?_)
    refine gG.step rfl (fun _ => rfl) ?_
    refine gG.vir rfl (h5') rfl rfl (Nat.le_of_ble_eq_true rfl) rfl rfl (Nat.le_of_ble_eq_true rfl) ?_
    refine c_3 (d + 1) hD1 hR1 hLN (fun j hj => hg j hj) (fun A' h2 hf2 hR2 hA => ?_)
    exact gG.done rfl (fun _ => rfl) (k A' h2 (hf2.pre hfr (by omega) (by omega)) hR2 hA)
  simp only [if_neg h77] at k
  refine gG.icmp (tgt := 51) rfl rfl (fun _ => ?_) (fun c => absurd (c_ne.mpr h77) c)
  refine gG.step rfl (fun _ => rfl) ?_
  refine gG.get rfl (h5') rfl ?_
  refine gG.get rfl (h6) rfl ?_
  refine gG.step rfl (fun _ => rfl) ?_
  by_cases h70 : w = 70
  · subst h70
    refine gG.icmp (tgt := 68) rfl rfl (fun c => absurd c (by decide)) (fun _ => ?_)
    refine gG.step rfl (fun _ => rfl) ?_
    refine gG.vir rfl (h5') rfl rfl (Nat.le_of_ble_eq_true rfl) rfl rfl (Nat.le_of_ble_eq_true rfl) ?_
    refine c_4 d hD1 hR1 hLN (fun j hj => hg j hj) (fun A' h2 hf2 hR2 hA => ?_)
    exact gG.done rfl (fun _ => rfl) (k A' h2 (hf2.pre hfr (by omega) (by omega)) hR2 hA)
  simp only [if_neg h70] at k
  refine gG.icmp (tgt := 68) rfl rfl (fun _ => ?_) (fun c => absurd (c_ne.mpr h70) c)
  -- behind the test of the text's length
  have at114 : (∀ m f', lastF s1 t1 = some (m, f') → w = 73 → s1 18 - s1 17 ≤ t1 8 (fI m f' 3)) → gG tb_T (gD (d + 4)) (some .int) cd_2 114 [some (.ref 5), some (.ref 1), some (.int (nI p)), some (.int (nI q))] [] h1 Q := by
    intro hfit
    refine gG.step rfl (fun _ => rfl) ?_
    refine gG.get rfl (h5') rfl ?_
    cases hm : mLast s1 t1 with
    | none =>
      rw [hm] at k
      refine gG.jmp (tgt := 128) rfl (fun _ => rfl) rfl ?_
      refine gG.step rfl (fun _ => rfl) ?_
      exact gG.done rfl (fun _ => rfl) (k A h1 ((fD.rf (a := 0) (z := 0)).pre hfr (by omega) (by omega)) hR1 rfl)
    | some m =>
      rw [hm] at k
      dsimp only at k
      refine gG.step rfl (fun _ => rfl) ?_
      refine gG.step rfl (fun _ => rfl) ?_
      refine gG.get rfl (h5') rfl ?_
      by_cases h0 : t1 7 m = 0
      · simp only [if_pos h0] at k
        have hl : lastF s1 t1 = none := by unfold lastF; rw [hm]; exact if_pos h0
        rw [hl]
        refine gG.step rfl (fun _ => rfl) ?_
        refine gG.step rfl (fun _ => rfl) ?_
        exact gG.done rfl (fun _ => rfl) (k A h1 ((fD.rf (a := 0) (z := 0)).pre hfr (by omega) (by omega)) hR1 rfl)
      · simp only [if_neg h0] at k
        have hl : lastF s1 t1 = some (m, nv (t1 7 m) - 1) := by unfold lastF; rw [hm]; exact if_neg h0
        rw [hl]
        refine gG.jmp (tgt := 130) rfl (fun _ => rfl) rfl ?_
        refine gG.step rfl (fun _ => rfl) ?_
        refine gG.get rfl (h5') rfl ?_
        refine gG.get rfl (h6) rfl ?_
        by_cases h79 : w = 79
        · subst h79
          refine gG.tsw (off := 95) (tgt := 232) rfl rfl rfl ?_
          refine gG.step rfl (fun _ => rfl) ?_
          refine gG.vir rfl (h5') rfl rfl (Nat.le_of_ble_eq_true rfl) rfl rfl (Nat.le_of_ble_eq_true rfl) ?_
          refine c_7 d hV hD1 hR1 hl hLN (hg 0 (by decide)) (fun h2 hf2 hR2 => ?_)
          exact gG.done rfl (fun _ => rfl) (k A h2 (hf2.pre hfr (by omega) (by omega)) hR2 rfl)
        simp only [if_neg h79] at k
        by_cases h71 : w = 71
        · subst h71
          refine gG.tsw (off := 100) (tgt := 237) rfl rfl rfl ?_
          refine gG.step rfl (fun _ => rfl) ?_
          refine gG.vir rfl (h5') rfl rfl (Nat.le_of_ble_eq_true rfl) rfl rfl (Nat.le_of_ble_eq_true rfl) ?_
          refine c_8 (d + 1) hD1 hR1 hl hLN (hg 0 (by decide)) (fun h2 hf2 hR2 => ?_)
          exact gG.done rfl (fun _ => rfl) (k A h2 (hf2.pre hfr (by omega) (by omega)) hR2 rfl)
        simp only [if_neg h71] at k
        by_cases h80 : w = 80
        · subst h80
          refine gG.tsw (off := 105) (tgt := 242) rfl rfl rfl ?_
          refine gG.step rfl (fun _ => rfl) ?_
          refine gG.vir rfl (h5') rfl rfl (Nat.le_of_ble_eq_true rfl) rfl rfl (Nat.le_of_ble_eq_true rfl) ?_
          refine c_9 (d + 1) hD1 hR1 hl hLN (hg 0 (by decide)) (hg 1 (by decide)) (hg 2 (by decide)) (fun h2 hf2 hR2 => ?_)
          exact gG.done rfl (fun _ => rfl) (k A h2 (hf2.pre hfr (by omega) (by omega)) hR2 rfl)
        simp only [if_neg h80] at k
        by_cases h86 : w = 86
        · subst h86
          refine gG.tsw (off := 110) (tgt := 247) rfl rfl rfl ?_
          refine gG.step rfl (fun _ => rfl) ?_
          refine gG.vir rfl (h5') rfl rfl (Nat.le_of_ble_eq_true rfl) rfl rfl (Nat.le_of_ble_eq_true rfl) ?_
          refine c_10 (d + 1) hD1 hR1 hl hLN (hg 0 (by decide)) (fun h2 hf2 hR2 => ?_)
          exact gG.done rfl (fun _ => rfl) (k A h2 (hf2.pre hfr (by omega) (by omega)) hR2 rfl)
        simp only [if_neg h86] at k
        by_cases h67 : w = 67
        · subst h67
          refine gG.tsw (off := 115) (tgt := 252) rfl rfl rfl ?_
          refine gG.step rfl (fun _ => rfl) ?_
          refine gG.vir rfl (h5') rfl rfl (Nat.le_of_ble_eq_true rfl) rfl rfl (Nat.le_of_ble_eq_true rfl) ?_
          refine c_11 (d + 3) hD1 hR1 hl (fun h2 hf2 hR2 => ?_)
          exact gG.done rfl (fun _ => rfl) (k A h2 (hf2.pre hfr (by omega) (by omega)) hR2 rfl)
        simp only [if_neg h67] at k
        have h73 := hW hpos h77 h80 h70 h79 h71 h86 h67
        subst h73
        refine gG.tsw (off := 120) (tgt := 257) rfl rfl rfl ?_
        obtain ⟨a, ha, haq, h17, h18⟩ := hJ rfl
        obtain ⟨rfl, rfl⟩ := hfq rfl
        rw [h17, h18] at hLN
        iterate 2 refine gG.step rfl (fun _ => rfl) ?_
        refine gG.vir rfl (h5') rfl rfl (Nat.le_of_ble_eq_true rfl) rfl rfl (Nat.le_of_ble_eq_true rfl) ?_
        refine c_12 d (a := a) (q := q) hD1 hR1 hl hLN hT1 (by omega) haq hq hqn h17 h18 (hfit _ _ hl rfl) (fun h2 hf2 hR2 => ?_)
        exact gG.done rfl (fun _ => rfl) (k A h2 (hf2.pre hfr (by omega) (by omega)) hR2 rfl)
  refine gG.step rfl (fun _ => rfl) ?_
  refine gG.get rfl (h5') rfl ?_
  refine gG.get rfl (h6) rfl ?_
  refine gG.step rfl (fun _ => rfl) ?_
  by_cases h73 : w = 73
  case neg =>
    refine gG.icmp (tgt := 114) rfl rfl (fun _ => ?_) (fun c => absurd (c_ne.mpr h73) c)
    exact at114 (fun _ _ _ y => absurd y h73)
  case pos =>
  refine gG.icmp (tgt := 114) rfl rfl (fun c => absurd h73 (c_ne.mp c)) (fun _ => ?_)
  refine gG.step rfl (fun _ => rfl) ?_
  refine gG.get rfl (h5') rfl ?_
  cases hl : lastF s1 t1 with
  | none =>
    refine gG.jmp (tgt := 114) rfl (fun _ => rfl) rfl ?_
    exact at114 (fun _ _ y => by rw [hl] at y; cases y)
  | some z =>
    obtain ⟨m, f'⟩ := z
    obtain ⟨-, -, -, -, -, -, -, -, ⟨sh, hx, -⟩, -, -⟩ := hR1.lat hD1 hl
    obtain ⟨rfl, rfl⟩ := hfq h73
    have e5 : h1[5]? = some (.inr (0, [.ref 6, .ref (A.1 (nv (s1 10))), va_rf ((mLast s1 t1).map A.2.1), .ref (A.2.2 m f'), .int o1, .int o2])) := by rw [h5', hl]; rfl
    refine gG.step rfl (fun _ => rfl) ?_
    refine gG.step rfl (fun _ => rfl) ?_
    refine gG.get rfl (e5) rfl ?_
    refine gG.get rfl (h6) rfl ?_
    refine gG.step rfl (fun _ => rfl) ?_
    refine gG.get rfl (e5) rfl ?_
    refine gG.get rfl (h6) rfl ?_
    refine gG.step rfl (fun _ => rfl) ?_
    refine gG.step rfl (fun _ => rfl) ?_
    refine gG.get rfl (e5) rfl ?_
    refine gG.get rfl (hx) rfl ?_
    refine gG.icmp (tgt := 114) rfl rfl (fun c => ?_) (fun c => ?_)
    · refine at114 (fun m2 f2 y _ => ?_)
      rw [hl] at y
      cases y
      exact c_le'.mp c
    · have hnf : ¬ s1 18 - s1 17 ≤ t1 8 (fI m f' 3) := fun y => c (c_le'.mpr y)
      obtain ⟨hm, hf1, -⟩ := lastF_some hD1 hl
      have hf2 : nv (t1 7 m) - 1 = f' := by omega
      have h0 : ¬ t1 7 m = 0 := by
        intro y
        rw [y] at hf1
        exact absurd hf1 (Nat.succ_ne_zero _)
      subst h73
      rw [hm] at k
      dsimp only at k
      simp only [if_neg h0, hf2, if_neg (show ¬ (73 : Int32) = 79 by decide), if_neg (show ¬ (73 : Int32) = 71 by decide), if_neg (show ¬ (73 : Int32) = 80 by decide), if_neg (show ¬ (73 : Int32) = 86 by decide), if_neg (show ¬ (73 : Int32) = 67 by decide)] at k
      unfold mReadTxt at k
      simp only [if_neg hnf] at k
      refine gG.step rfl (fun _ => rfl) ?_
      exact gG.done rfl (fun _ => rfl) (k A h1 ((fD.rf (a := 0) (z := 0)).pre hfr (by omega) (by omega)) hR1 rfl)
end LINE2
