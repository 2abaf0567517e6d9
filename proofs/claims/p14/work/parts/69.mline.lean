section GO5
variable {T : im_T} {call : Nat → im_F} {ret : Option FieldType} {cd : List (Nat × im_X)} {pc : Nat} {L : im_L} {st : List Value} {h : im_H} {Q : Option Value → im_H → Prop}
theorem gG.lsw {dflt off : Int} {lp : Array (Int × Int)} {a : Int32} {a1 a2 tgt : Nat} (hf : im_f cd pc = some (.lookupswitch dflt lp, a1, a2)) (ho : Op.lookupswitch.offset lp.toList dflt a.toInt = off) (ht : (pc : Int) + off = (tgt : Int)) (k : gG T call ret cd tgt L st h Q) : gG T call ret cd pc L (.int a :: st) h Q := by
  refine gG.step hf (fun n => ?_) k
  show im_jmp pc (Op.lookupswitch.offset lp.toList dflt a.toInt) L st h = _
  rw [ho]
  unfold im_jmp
  rw [ht, if_pos (Int.natCast_nonneg tgt), Int.toNat_natCast]
  rfl
end GO5
theorem i_ne {a b : Int32} (h : ¬ a = b) : ¬ a.toInt = b.toInt := fun z => h (Int32.toInt_inj.mp z)
theorem m_533 (d : Nat) {b : Nat} {h0 h : im_H} {s : Nat → Int32} {t : Nat → Nat → Int32} (hM : MM b h0 h s t) {p q : Nat} (hpq : p ≤ q) (hq : q ≤ 3000) (hE : ps (s 10) 5) (hp : ps (t 3 (nv (s 10))) 8) (h7 : ∀ m, mLast s t = some m → ps (t 7 m) 30) (Q : Option Value → im_H → Prop) (k : ∀ h', MM b h0 h' (mLine s t p q).2.1 (mLine s t p q).2.2 → Q (some (.int (mLine s t p q).1)) h') : gC (gD (d + 5)) 533 [.ref b, .int (nI p), .int (nI q)] h Q := by
  refine gC.of (q := me_533.2) rfl (Nat.le_of_ble_eq_true rfl) rfl ?_
  iterate 3 refine gG.step (cd := cd_533) rfl (fun _ => rfl) ?_
  refine mVir hM rfl rfl rfl (Nat.le_of_ble_eq_true rfl) rfl rfl (Nat.le_of_ble_eq_true rfl) ?_
  refine m_516 (d + 2) hM hpq hq _ (fun h hM => ?_)
  unfold mLine at k
  dsimp only at k
  have hE' : ps ((mCut s t p q).2.1 10) 5 := by rw [mCut_10]; exact hE
  have hp' : ps ((mCut s t p q).2.2 3 (nv ((mCut s t p q).2.1 10))) 8 := by rw [mCut_10, mCut_t _ _ _ _ (by decide)]; exact hp
  have h7' : ∀ m, mLast (mCut s t p q).2.1 (mCut s t p q).2.2 = some m → ps ((mCut s t p q).2.2 7 m) 30 := by
    intro m hm
    rw [mCut_t _ _ _ _ (by decide)]
    apply h7
    unfold mLast at hm ⊢
    rw [mCut_10, mCut_t _ _ _ _ (by decide)] at hm
    exact hm
  show gG _ _ _ _ 6 _ [Value.int (mCut s t p q).1] h Q
  generalize mCut s t p q = z at k hM hE' hp' h7' ⊢
  obtain ⟨w, s, t⟩ := z
  dsimp only at k hM hE' hp' h7' ⊢
  clear hE hp h7
  have hE5 := hE'.2
  have hp8 := hp'.2
  refine gG.step (L' := [some (.ref b), some (.int (nI p)), some (.int (nI q)), some (.int w), none, none]) rfl (fun _ => rfl) ?_
  refine gG.step rfl (fun _ => rfl) ?_
  refine gG.ifc (tgt := 21) rfl rfl (fun c => ?_) (fun c => ?_)
  case refine_2 =>
    rw [if_pos (Int32.not_lt.mp (fun z => c (decide_eq_true z)))] at k
    refine gG.step rfl (fun _ => rfl) ?_
    refine gG.ifc (tgt := 19) rfl rfl (fun c => ?_) (fun c => ?_)
    · rw [if_neg (c_ne.mp c)] at k
      refine gG.step rfl (fun _ => rfl) ?_
      exact gG.done rfl (fun _ => rfl) (k h hM)
    · rw [if_pos (Decidable.not_not.mp (fun z => c (c_ne.mpr z)))] at k
      refine gG.step rfl (fun _ => rfl) ?_
      refine gG.goto (tgt := 20) rfl rfl ?_
      exact gG.done rfl (fun _ => rfl) (k h hM)
  case refine_1 =>
  rw [if_neg (Int32.not_le.mpr (of_decide_eq_true c))] at k
  iterate 2 refine gG.step rfl (fun _ => rfl) ?_
  refine gG.icmp (tgt := 32) rfl rfl (fun c77 => ?_) (fun c77 => ?_)
  case refine_2 =>
    rw [if_pos (show w = 77 from Decidable.not_not.mp (fun z => c77 (c_ne.mpr z)))] at k
    refine gG.step rfl (fun _ => rfl) ?_
    refine mVir hM rfl rfl rfl (Nat.le_of_ble_eq_true rfl) rfl rfl (Nat.le_of_ble_eq_true rfl) ?_
    refine m_525 (d + 2) hM hE' hp' _ (fun h hM => ?_)
    exact gG.done rfl (fun _ => rfl) (k h hM)
  case refine_1 =>
  rw [if_neg (show ¬ w = 77 from c_ne.mp c77)] at k
  refine gG.step rfl (fun _ => rfl) ?_
  refine mGet hM rfl rfl ?_
  refine gG.step rfl (fun _ => rfl) ?_
  refine mGet hM rfl rfl ?_
  refine mAld (j := 3) (n := nv (s 10)) hM rfl (by decide) (by decide) hE'.1 (show _ < 7 by omega) ?_
  have hml : ∀ m, mLast s t = some m → m < 48 := by
    intro m hm
    unfold mLast at hm
    split at hm
    · cases hm
    · cases hm
      omega
  have at67 : gG tb_T (gD (d + 4)) (some .int) cd_533 67 [some (.ref b), some (.int (nI p)), some (.int (nI q)), some (.int w), none, none] [.int (oI (mLast s t))] h Q := by
    refine gG.step (L' := [some (.ref b), some (.int (nI p)), some (.int (nI q)), some (.int w), some (.int (oI (mLast s t))), none]) rfl (fun _ => rfl) ?_
    iterate 2 refine gG.step rfl (fun _ => rfl) ?_
    refine gG.icmp (tgt := 96) rfl rfl (fun c70 => ?_) (fun c70 => ?_)
    case refine_2 =>
      rw [if_pos (show w = 70 from Decidable.not_not.mp (fun z => c70 (c_ne.mpr z)))] at k
      iterate 2 refine gG.step rfl (fun _ => rfl) ?_
      refine mVir hM rfl rfl rfl (Nat.le_of_ble_eq_true rfl) rfl rfl (Nat.le_of_ble_eq_true rfl) ?_
      refine m_526 d hM (fun m hm => ⟨hml m hm, h7' m hm⟩) _ (fun h hM => ?_)
      show gG _ _ _ _ 81 _ [Value.int (mReadField s t (mLast s t)).1] h Q
      generalize mReadField s t (mLast s t) = y at k hM ⊢
      obtain ⟨y1, y2, y3⟩ := y
      dsimp only at k hM ⊢
      refine gG.step (L' := [some (.ref b), some (.int (nI p)), some (.int (nI q)), some (.int w), some (.int (oI (mLast s t))), some (.int y1)]) rfl (fun _ => rfl) ?_
      refine gG.step rfl (fun _ => rfl) ?_
      refine gG.ifc (tgt := 93) rfl rfl (fun c => ?_) (fun c => ?_)
      · rw [if_neg (c_ne.mp c)] at k
        refine gG.step rfl (fun _ => rfl) ?_
        exact gG.done rfl (fun _ => rfl) (k h hM)
      · rw [if_pos (Decidable.not_not.mp (fun z => c (c_ne.mpr z)))] at k
        iterate 2 refine gG.step rfl (fun _ => rfl) ?_
        refine mPut hM rfl (by decide) rfl rfl rfl (fun h hM => ?_)
        refine gG.step rfl (fun _ => rfl) ?_
        exact gG.done rfl (fun _ => rfl) (k h hM)
    case refine_1 =>
    rw [if_neg (show ¬ w = 70 from c_ne.mp c70)] at k
    refine gG.step rfl (fun _ => rfl) ?_
    cases hm : mLast s t with
    | none =>
      rw [hm] at k
      refine gG.ifc (tgt := 111) rfl rfl (fun _ => ?_) (fun c => absurd (by decide) c)
      refine gG.step rfl (fun _ => rfl) ?_
      exact gG.done rfl (fun _ => rfl) (k h hM)
    | some m =>
      rw [hm] at k
      dsimp only at k
      have hm48 := hml m hm
      have hm7 := h7' m hm
      have hm30 := hm7.2
      refine gG.ifc (tgt := 111) rfl rfl (fun c => absurd c (c_ltn (by omega))) (fun _ => ?_)
      refine gG.step rfl (fun _ => rfl) ?_
      refine mGet hM rfl rfl ?_
      refine gG.step rfl (fun _ => rfl) ?_
      refine mAld (j := 7) (n := m) hM rfl (by decide) (by decide) rfl (show m < 48 from hm48) ?_
      refine gG.ifc (tgt := 113) rfl rfl (fun c => ?_) (fun c => ?_)
      case refine_2 =>
        rw [if_pos (show t 7 m = 0 from Decidable.not_not.mp (fun z => c (c_ne.mpr z)))] at k
        refine gG.step rfl (fun _ => rfl) ?_
        exact gG.done rfl (fun _ => rfl) (k h hM)
      case refine_1 =>
      have h70 : ¬ t 7 m = 0 := c_ne.mp c
      rw [if_neg h70] at k
      have hpos := nv_pos hm7 h70
      refine gG.step rfl (fun _ => rfl) ?_
      refine mGet hM rfl rfl ?_
      refine gG.step rfl (fun _ => rfl) ?_
      refine mAld (j := 7) (n := m) hM rfl (by decide) (by decide) rfl (show m < 48 from hm48) ?_
      iterate 2 refine gG.step rfl (fun _ => rfl) ?_
      have ef : t 7 m - 1 = nI (nv (t 7 m) - 1) := by
        rw [show nI (nv (t 7 m) - 1) = nI (nv (t 7 m)) - nI 1 from (pk_sub hpos).symm, ← hm7.1]
        rfl
      show gG _ _ _ _ 122 _ [Value.int (t 7 m - 1)] h Q
      rw [ef]
      obtain ⟨f, hff⟩ : ∃ f, f = nv (t 7 m) - 1 := ⟨_, rfl⟩
      rw [← hff] at k ⊢
      have hf30 : f < 30 := by omega
      refine gG.step (L' := [some (.ref b), some (.int (nI p)), some (.int (nI q)), some (.int w), some (.int (nI m)), some (.int (nI f))]) rfl (fun _ => rfl) ?_
      refine gG.step rfl (fun _ => rfl) ?_
      by_cases w79 : w = 79
      · rw [if_pos w79] at k
        rw [w79]
        refine gG.lsw (tgt := 176) rfl rfl rfl ?_
        iterate 3 refine gG.step rfl (fun _ => rfl) ?_
        refine mVir hM rfl rfl rfl (Nat.le_of_ble_eq_true rfl) rfl rfl (Nat.le_of_ble_eq_true rfl) ?_
        refine m_527 d hM hm48 hf30 hm7 _ (fun h hM => ?_)
        exact gG.done rfl (fun _ => rfl) (k h hM)
      rw [if_neg w79] at k
      by_cases w71 : w = 71
      · rw [if_pos w71] at k
        rw [w71]
        refine gG.lsw (tgt := 185) rfl rfl rfl ?_
        iterate 3 refine gG.step rfl (fun _ => rfl) ?_
        refine mVir hM rfl rfl rfl (Nat.le_of_ble_eq_true rfl) rfl rfl (Nat.le_of_ble_eq_true rfl) ?_
        refine m_528 (d + 2) hM hm48 hf30 _ (fun h hM => ?_)
        exact gG.done rfl (fun _ => rfl) (k h hM)
      rw [if_neg w71] at k
      by_cases w80 : w = 80
      · rw [if_pos w80] at k
        rw [w80]
        refine gG.lsw (tgt := 194) rfl rfl rfl ?_
        iterate 3 refine gG.step rfl (fun _ => rfl) ?_
        refine mVir hM rfl rfl rfl (Nat.le_of_ble_eq_true rfl) rfl rfl (Nat.le_of_ble_eq_true rfl) ?_
        refine m_529 (d + 2) hM hm48 hf30 _ (fun h hM => ?_)
        exact gG.done rfl (fun _ => rfl) (k h hM)
      rw [if_neg w80] at k
      by_cases w86 : w = 86
      · rw [if_pos w86] at k
        rw [w86]
        refine gG.lsw (tgt := 203) rfl rfl rfl ?_
        iterate 3 refine gG.step rfl (fun _ => rfl) ?_
        refine mVir hM rfl rfl rfl (Nat.le_of_ble_eq_true rfl) rfl rfl (Nat.le_of_ble_eq_true rfl) ?_
        refine m_530 (d + 2) hM hm48 hf30 _ (fun h hM => ?_)
        exact gG.done rfl (fun _ => rfl) (k h hM)
      rw [if_neg w86] at k
      by_cases w67 : w = 67
      · rw [if_pos w67] at k
        rw [w67]
        refine gG.lsw (tgt := 212) rfl rfl rfl ?_
        iterate 3 refine gG.step rfl (fun _ => rfl) ?_
        refine mVir hM rfl rfl rfl (Nat.le_of_ble_eq_true rfl) rfl rfl (Nat.le_of_ble_eq_true rfl) ?_
        refine m_531 (d + 2) hM hm48 hf30 _ (fun h hM => ?_)
        exact gG.done rfl (fun _ => rfl) (k h hM)
      rw [if_neg w67] at k
      refine gG.lsw (off := 96) (tgt := 221) rfl ?_ rfl ?_
      · have e67 : ¬ w.toInt = 67 := i_ne w67
        have e71 : ¬ w.toInt = 71 := i_ne w71
        have e79 : ¬ w.toInt = 79 := i_ne w79
        have e80 : ¬ w.toInt = 80 := i_ne w80
        have e86 : ¬ w.toInt = 86 := i_ne w86
        simp [Op.lookupswitch.offset, e67, e71, e79, e80, e86, Ne.symm e67, Ne.symm e71, Ne.symm e79, Ne.symm e80, Ne.symm e86]
      iterate 3 refine gG.step rfl (fun _ => rfl) ?_
      refine mVir hM rfl rfl rfl (Nat.le_of_ble_eq_true rfl) rfl rfl (Nat.le_of_ble_eq_true rfl) ?_
      refine m_532 (d + 2) hM hm48 hf30 _ (fun h hM => ?_)
      exact gG.done rfl (fun _ => rfl) (k h hM)
  refine gG.ifc (tgt := 48) rfl rfl (fun c => ?_) (fun c => ?_)
  · have hne : ¬ t 3 (nv (s 10)) = 0 := c_ne.mp c
    have hpos := nv_pos hp' hne
    have el : mLast s t = some (8 * nv (s 10) + nv (t 3 (nv (s 10))) - 1) := by unfold mLast; rw [if_neg hne]
    rw [el] at at67
    iterate 2 refine gG.step rfl (fun _ => rfl) ?_
    refine mGet hM rfl rfl ?_
    iterate 2 refine gG.step rfl (fun _ => rfl) ?_
    refine mGet hM rfl rfl ?_
    refine gG.step rfl (fun _ => rfl) ?_
    refine mGet hM rfl rfl ?_
    refine mAld (j := 3) (n := nv (s 10)) hM rfl (by decide) (by decide) hE'.1 (show _ < 7 by omega) ?_
    iterate 3 refine gG.step rfl (fun _ => rfl) ?_
    have em : (8 : Int32) * s 10 + t 3 (nv (s 10)) - 1 = nI (8 * nv (s 10) + nv (t 3 (nv (s 10))) - 1) := by
      rw [show nI (8 * nv (s 10) + nv (t 3 (nv (s 10))) - 1) = nI (8 * nv (s 10) + nv (t 3 (nv (s 10)))) - nI 1 from (pk_sub (by omega)).symm, ← nI_add, ← pk_mul, ← hp'.1, ← hE'.1]
      rfl
    show gG _ _ _ _ 67 _ [Value.int ((8 : Int32) * s 10 + t 3 (nv (s 10)) - 1)] h Q
    rw [em]
    exact at67
  · have hz : t 3 (nv (s 10)) = 0 := Decidable.not_not.mp (fun z => c (c_ne.mpr z))
    have el : mLast s t = none := by unfold mLast; rw [if_pos hz]
    rw [el] at at67
    refine gG.step rfl (fun _ => rfl) ?_
    refine gG.goto (tgt := 67) rfl rfl ?_
    exact at67
