theorem c_ge {a b : Nat} (ha : a < 2 ^ 31) (hb : b < 2 ^ 31) : im_cmp .ge (nI a) (nI b) = true ↔ b ≤ a := by
  show decide (nI b ≤ nI a) = true ↔ _
  rw [decide_eq_true_iff, nI_leI hb ha]
theorem c_gt {a b : Nat} (ha : a < 2 ^ 31) (hb : b < 2 ^ 31) : im_cmp .gt (nI a) (nI b) = true ↔ b < a := by
  show decide (nI b < nI a) = true ↔ _
  rw [decide_eq_true_iff, nI_ltI hb ha]
theorem c_lt {a b : Nat} (ha : a < 2 ^ 31) (hb : b < 2 ^ 31) : im_cmp .lt (nI a) (nI b) = true ↔ a < b := by
  show decide (nI a < nI b) = true ↔ _
  rw [decide_eq_true_iff, nI_ltI ha hb]
theorem c_le {a b : Nat} (ha : a < 2 ^ 31) (hb : b < 2 ^ 31) : im_cmp .le (nI a) (nI b) = true ↔ a ≤ b := by
  show decide (nI a ≤ nI b) = true ↔ _
  rw [decide_eq_true_iff, nI_leI ha hb]
theorem c_eq {a b : Nat} (ha : a < 2 ^ 31) (hb : b < 2 ^ 31) : im_cmp .eq (nI a) (nI b) = true ↔ a = b := by
  show decide (nI a = nI b) = true ↔ _
  rw [decide_eq_true_iff, nI_eq ha hb]
theorem c_ne {x y : Int32} : im_cmp .ne x y = true ↔ ¬ x = y := decide_eq_true_iff
theorem c_ee {x y : Int32} : im_cmp .eq x y = true ↔ x = y := decide_eq_true_iff
def mMapP (t : Nat → Nat → Int32) (e : Nat) (name : Int32) (k : Nat) : Bool := decide (t 4 (8 * e + k) = name)
def mMapR (t : Nat → Nat → Int32) (e : Nat) (name : Int32) (n : Nat) : Int32 := match sr (mMapP t e name) n 0 with
  | some k => nI (8 * e + k)
  | none => -1
theorem m_518 (d : Nat) {b : Nat} {h0 h : im_H} {s : Nat → Int32} {t : Nat → Nat → Int32} (hM : MM b h0 h s t) {e n : Nat} {name : Int32} (he : e < 6) (hn : n ≤ 8) (ht : t 3 e = nI n) (Q : Option Value → im_H → Prop) (k : Q (some (.int (mMapR t e name n))) h) : gC (gD (d + 1)) 518 [.ref b, .int (nI e), .int name] h Q := by
  refine gC.of (q := me_518.2) rfl (Nat.le_of_ble_eq_true rfl) rfl ?_
  iterate 2 refine gG.step (cd := cd_518) rfl (fun _ => rfl) ?_
  have key : ∀ m i : Nat, i + m = n → Q (some (.int (match sr (mMapP t e name) m i with | some k => nI (8 * e + k) | none => -1))) h → gG tb_T (gD d) (some .int) cd_518 2 [some (.ref b), some (.int (nI e)), some (.int name), some (.int (nI i))] [] h Q := by
    intro m
    induction m with
    | zero =>
      intro i hi hq
      iterate 2 refine gG.step rfl (fun _ => rfl) ?_
      refine mGet hM rfl rfl ?_
      refine gG.step rfl (fun _ => rfl) ?_
      refine mAld (j := 3) (n := e) hM rfl (by decide) (by decide) rfl (show e < 7 by omega) ?_
      rw [ht]
      refine gG.icmp (tgt := 40) rfl rfl (fun _ => ?_) (fun c => absurd ((c_ge (by omega) (by omega)).mpr (by omega)) c)
      refine gG.step rfl (fun _ => rfl) ?_
      exact gG.done rfl (fun _ => rfl) hq
    | succ m ih =>
      intro i hi hq
      iterate 2 refine gG.step rfl (fun _ => rfl) ?_
      refine mGet hM rfl rfl ?_
      refine gG.step rfl (fun _ => rfl) ?_
      refine mAld (j := 3) (n := e) hM rfl (by decide) (by decide) rfl (show e < 7 by omega) ?_
      rw [ht]
      refine gG.icmp (tgt := 40) rfl rfl (fun c => absurd ((c_ge (by omega) (by omega)).mp c) (by omega)) (fun _ => ?_)
      refine gG.step rfl (fun _ => rfl) ?_
      refine mGet hM rfl rfl ?_
      iterate 5 refine gG.step rfl (fun _ => rfl) ?_
      refine mAld (j := 4) (n := 8 * e + i) hM rfl (by decide) (by decide) (by show (8 : Int32) * nI e + nI i = _; rw [show (8 : Int32) = nI 8 from rfl, pk_mul, nI_add]) (show 8 * e + i < 48 by omega) ?_
      refine gG.step rfl (fun _ => rfl) ?_
      rw [sr] at hq
      refine gG.icmp (tgt := 34) rfl rfl (fun c => ?_) (fun c => ?_)
      · have hp : ¬ mMapP t e name i = true := fun z => c_ne.mp c (of_decide_eq_true z)
        rw [if_neg hp] at hq
        refine gG.step rfl (fun _ => rfl) ?_
        refine gG.goto (tgt := 2) rfl rfl ?_
        have hi1 : nI i + Int32.ofInt 1 = nI (i + 1) := nI_1 i
        have := ih (i + 1) (by omega) hq
        rw [← hi1] at this
        exact this
      · have hp : mMapP t e name i = true := decide_eq_true (Decidable.not_not.mp (fun z => c (c_ne.mpr z)))
        rw [if_pos hp] at hq
        iterate 5 refine gG.step rfl (fun _ => rfl) ?_
        refine gG.done rfl (fun _ => rfl) ?_
        have e2 : (8 : Int32) * nI e + nI i = nI (8 * e + i) := by rw [show (8 : Int32) = nI 8 from rfl, pk_mul, nI_add]
        show Q (some (.int ((8 : Int32) * nI e + nI i))) h
        rw [e2]
        exact hq
  exact key n 0 (by omega) k
