/-! A LINE: the code -/
def LC (h0 h : im_H) (l : List Value) (g : Nat → Int32) : Prop := fr 6 8 h0 h ∧ h[6]? = some (.inr (5, l)) ∧ h[7]? = some (.inl (0, 5, .inl g))
section CLIN
variable {call : Nat → im_F} {ret : Option FieldType} {cd : List (Nat × im_X)} {pc : Nat} {L : im_L} {st : List Value} {h0 h : im_H} {Q : Option Value → im_H → Prop} {l : List Value} {g : Nat → Int32}
theorem lPut {idx k : Nat} {v : Value} {l' : List Value} {ty : FieldType} (hI : LC h0 h l g) (hf : im_f cd pc = some (.putfield idx, 5, k)) (hk : k < l.length) (hty : (tb_F 5)[k]? = some ty) (hfit : im_fit ty v = true) (hl : l.set k v = l') (kk : ∀ h', LC h0 h' l' g → gG tb_T call ret cd (pc + 3) L st h' Q) : gG tb_T call ret cd pc L (v :: .ref 6 :: st) h Q := by
  subst hl
  refine gG.put hf hI.2.1 hk hty hfit (kk _ ⟨hI.1.set hI.2.1 ?_ (by decide) (by decide), set_at hI.2.1, by rw [set_ne (by decide)]; exact hI.2.2⟩)
  show (l.set k v).length = l.length
  rw [List.length_set]
theorem lAst {i x : Int32} {j a1 a2 : Nat} (hI : LC h0 h l g) (hf : im_f cd pc = some (.iastore, a1, a2)) (hi : i = nI j) (hj : j < 5) (kk : ∀ h', LC h0 h' l (upd g j x) → gG tb_T call ret cd (pc + 1) L st h' Q) : gG tb_T call ret cd pc L (.int x :: .int i :: .ref 7 :: st) h Q :=
  gG.iast hf hI.2.2 hi hj (by decide) (kk _ ⟨hI.1.set hI.2.2 rfl (by decide) (by decide), by rw [set_ne (by decide)]; exact hI.2.1, set_at hI.2.2⟩)
end CLIN
theorem LC.t1 {h0 h : im_H} {l : List Value} {g : Nat → Int32} (hI : LC h0 h l g) : h[1]? = h0[1]? := hI.1.2.2 1 (Or.inl (by decide))
section CLIN2
variable {h0 h : im_H} {x : Nat → Int32} {p q : Nat} {Q : Option Value → im_H → Prop}
theorem c_323 (d : Nat) (h1 : h[1]? = some (.inl (1, 3000, .inl x))) (hpq : p ≤ q) (hq : q ≤ 3000) (k : Q (some (.int (nI (mSk x (q - p) p)))) h) : gC (gD (d + 1)) 323 [.ref 1, .int (nI p), .int (nI q)] h Q := by
  refine gC.of (q := me_323.2) rfl (Nat.le_of_ble_eq_true rfl) rfl ?_
  refine gG.step (cd := cd_323) rfl (fun _ => rfl) ?_
  refine gG.step (L' := [some (.ref 1), some (.int (nI p)), some (.int (nI q)), some (.int (nI p))]) rfl (fun _ => rfl) ?_
  have key : ∀ (r i : Nat), i + r = q → Q (some (.int (nI (mSk x r i)))) h → gG tb_T (gD d) (some .int) cd_323 2 [some (.ref 1), some (.int (nI p)), some (.int (nI q)), some (.int (nI i))] [] h Q := by
    intro r
    induction r with
    | zero =>
      intro i hi k
      iterate 2 refine gG.step rfl (fun _ => rfl) ?_
      refine gG.icmp (tgt := 23) rfl rfl (fun _ => ?_) (fun c => absurd ((c_ge (by omega) (by omega)).mpr (by omega)) c)
      refine gG.step rfl (fun _ => rfl) ?_
      have hiq : i = q := by omega
      rw [← hiq]
      exact gG.done rfl (fun _ => rfl) (k)
    | succ r ih =>
      intro i hi k
      rw [mSk] at k
      iterate 2 refine gG.step rfl (fun _ => rfl) ?_
      refine gG.icmp (tgt := 23) rfl rfl (fun c => absurd c (fun z => absurd ((c_ge (by omega) (by omega)).mp z) (by omega))) (fun _ => ?_)
      iterate 2 refine gG.step rfl (fun _ => rfl) ?_
      refine gG.bald (j := i) rfl h1 rfl (by omega) (by decide) ?_
      refine gG.step rfl (fun _ => rfl) ?_
      refine gG.icmp (tgt := 17) rfl rfl (fun c => ?_) (fun c => ?_)
      · rw [if_pos (show x i = 32 from c_ee.mp c)] at k
        refine gG.step rfl (fun _ => rfl) ?_
        refine gG.goto (tgt := 2) rfl rfl ?_
        have ih1 := ih (i + 1) (by omega) k
        rw [← nI_1 i] at ih1
        exact ih1
      · rw [if_neg (show ¬ x i = 32 from fun z => c (c_ee.mpr z))] at k
        refine gG.step rfl (fun _ => rfl) ?_
        exact gG.done rfl (fun _ => rfl) (k)
  exact key (q - p) p (by omega) k
theorem c_324 (d : Nat) {v0 v1 v2 v3 v4 v5 v6 : Value} {g : Nat → Int32} (hI : LC h0 h [v0, v1, v2, v3, v4, v5, v6] g) (h1 : h0[1]? = some (.inl (1, 3000, .inl x))) (hq : q ≤ 3000) (k : ∀ h', LC h0 h' [v0, v1, v2, v3, v4, .int (nI (p + 1)), .int (nI q)] g → Q (some (.int (bI (decide (p + 1 < q ∧ x p = 32))))) h') (hp : p ≤ 3000) : gC (gD (d + 1)) 324 [.ref 6, .ref 1, .int (nI p), .int (nI q)] h Q := by
  refine gC.of (q := me_324.2) rfl (Nat.le_of_ble_eq_true rfl) rfl ?_
  iterate 4 refine gG.step (cd := cd_324) rfl (fun _ => rfl) ?_
  show gG _ _ _ _ 4 _ [Value.int (nI p + 1), Value.ref 6] h Q
  rw [nI_1]
  refine lPut hI rfl (Nat.le_of_ble_eq_true rfl) rfl rfl rfl (fun h hI => ?_)
  iterate 2 refine gG.step rfl (fun _ => rfl) ?_
  refine lPut hI rfl (Nat.le_of_ble_eq_true rfl) rfl rfl rfl (fun h hI => ?_)
  refine gG.step rfl (fun _ => rfl) ?_
  refine gG.get rfl (hI.2.1) rfl ?_
  refine gG.step rfl (fun _ => rfl) ?_
  refine gG.get rfl (hI.2.1) rfl ?_
  by_cases hlt : p + 1 < q
  · refine gG.icmp (tgt := 35) rfl rfl (fun c => absurd ((c_ge (by omega) (by omega)).mp c) (by omega)) (fun _ => ?_)
    iterate 2 refine gG.step rfl (fun _ => rfl) ?_
    refine gG.bald (j := p) rfl (by rw [hI.t1]; exact h1) rfl (by omega) (by decide) ?_
    refine gG.step rfl (fun _ => rfl) ?_
    refine gG.icmp (tgt := 35) rfl rfl (fun c => ?_) (fun c => ?_)
    · rw [decide_eq_false (fun z => c_ne.mp c z.2)] at k
      refine gG.step rfl (fun _ => rfl) ?_
      exact gG.done rfl (fun _ => rfl) (k h hI)
    · rw [decide_eq_true ⟨hlt, Decidable.not_not.mp (fun z => c (c_ne.mpr z))⟩] at k
      refine gG.step rfl (fun _ => rfl) ?_
      refine gG.goto (tgt := 36) rfl rfl ?_
      exact gG.done rfl (fun _ => rfl) (k h hI)
  · rw [decide_eq_false (fun z => hlt z.1)] at k
    refine gG.icmp (tgt := 35) rfl rfl (fun _ => ?_) (fun c => absurd ((c_ge (by omega) (by omega)).mpr (by omega)) c)
    refine gG.step rfl (fun _ => rfl) ?_
    exact gG.done rfl (fun _ => rfl) (k h hI)
theorem c_326 (d : Nat) {v1 v2 v3 v5 v6 : Value} {g : Nat → Int32} {n : Nat} (hn : n ≤ 5) (hI : LC h0 h [.ref 7, v1, v2, v3, .int (nI n), v5, v6] g) (k0 : 5 ≤ n → Q (some (.int 0)) h) (k : n < 5 → ∀ h', LC h0 h' [.ref 7, v1, v2, v3, .int (nI (n + 1)), v5, v6] (upd g n 0) → Q (some (.int 1)) h') : gC (gD (d + 1)) 326 [.ref 6] h Q := by
  refine gC.of (q := me_326.2) rfl (Nat.le_of_ble_eq_true rfl) rfl ?_
  refine gG.step (cd := cd_326) rfl (fun _ => rfl) ?_
  refine gG.get rfl (hI.2.1) rfl ?_
  refine gG.step rfl (fun _ => rfl) ?_
  by_cases h5 : n < 5
  · refine gG.icmp (tgt := 10) rfl rfl (fun _ => ?_) (fun c => absurd ((c_lt (b := 5) (by omega) (by decide)).mpr h5) c)
    refine gG.step rfl (fun _ => rfl) ?_
    refine gG.get rfl (hI.2.1) rfl ?_
    refine gG.step rfl (fun _ => rfl) ?_
    refine gG.get rfl (hI.2.1) rfl ?_
    refine gG.step rfl (fun _ => rfl) ?_
    refine lAst (j := n) hI rfl rfl h5 (fun h hI => ?_)
    iterate 2 refine gG.step rfl (fun _ => rfl) ?_
    refine gG.get rfl (hI.2.1) rfl ?_
    iterate 2 refine gG.step rfl (fun _ => rfl) ?_
    show gG _ _ _ _ 27 _ [Value.int (nI n + 1), Value.ref 6] h Q
    rw [nI_1]
    refine lPut hI rfl (Nat.le_of_ble_eq_true rfl) rfl rfl rfl (fun h hI => ?_)
    refine gG.step rfl (fun _ => rfl) ?_
    exact gG.done rfl (fun _ => rfl) (k h5 h hI)
  · refine gG.icmp (tgt := 10) rfl rfl (fun c => absurd ((c_lt (b := 5) (by omega) (by decide)).mp c) h5) (fun _ => ?_)
    refine gG.step rfl (fun _ => rfl) ?_
    exact gG.done rfl (fun _ => rfl) (k0 (by omega))
theorem c_325 (d : Nat) {v1 v2 v3 v5 v6 : Value} {g : Nat → Int32} (hI : LC h0 h [.ref 7, v1, v2, v3, .int (nI 0), v5, v6] g) (h1 : h0[1]? = some (.inl (1, 3000, .inl x))) (hpq : p ≤ q) (hq : q ≤ 3000) (k : ∀ h', LC h0 h' [.ref 7, v1, v2, v3, .int (nI (cSc x (q - p) p 3 0 g).2.1), v5, v6] (cSc x (q - p) p 3 0 g).2.2 → Q (some (.int (bI (cSc x (q - p) p 3 0 g).1))) h') : gC (gD (d + 3)) 325 [.ref 6, .ref 1, .int (nI p), .int (nI q)] h Q := by
  refine gC.of (q := me_325.2) rfl (Nat.le_of_ble_eq_true rfl) rfl ?_
  refine gG.step (cd := cd_325) rfl (fun _ => rfl) ?_
  refine gG.step (L' := [some (.ref 6), some (.ref 1), some (.int (nI p)), some (.int (nI q)), some (.int (nI 3)), none, none]) rfl (fun _ => rfl) ?_
  refine gG.step rfl (fun _ => rfl) ?_
  refine gG.step (L' := [some (.ref 6), some (.ref 1), some (.int (nI p)), some (.int (nI q)), some (.int (nI 3)), some (.int (nI p)), none]) rfl (fun _ => rfl) ?_
  have key : ∀ (r i dg n : Nat) (g : Nat → Int32) (h : im_H) (x6 : Option Value), i + r = q → dg ≤ 3 → n ≤ 5 → (1 ≤ dg → dg ≤ 2 → 1 ≤ n) → LC h0 h [.ref 7, v1, v2, v3, .int (nI n), v5, v6] g → (∀ h', LC h0 h' [.ref 7, v1, v2, v3, .int (nI (cSc x r i dg n g).2.1), v5, v6] (cSc x r i dg n g).2.2 → Q (some (.int (bI (cSc x r i dg n g).1))) h') → gG tb_T (gD (d + 2)) (some .boolean) cd_325 6 [some (.ref 6), some (.ref 1), some (.int (nI p)), some (.int (nI q)), some (.int (nI dg)), some (.int (nI i)), x6] [] h Q := by
    intro r
    induction r with
    | zero =>
      intro i dg n g h x6 hi hdg hn hdn hI k
      iterate 2 refine gG.step rfl (fun _ => rfl) ?_
      refine gG.icmp (tgt := 101) rfl rfl (fun _ => ?_) (fun c => absurd ((c_ge (by omega) (by omega)).mpr (by omega)) c)
      refine gG.step rfl (fun _ => rfl) ?_
      exact gG.done rfl (fun _ => rfl) (k h hI)
    | succ r ih =>
      intro i dg n g h x6 hi hdg hn hdn hI k
      rw [cSc] at k
      iterate 2 refine gG.step rfl (fun _ => rfl) ?_
      refine gG.icmp (tgt := 101) rfl rfl (fun c => absurd c (fun z => absurd ((c_ge (by omega) (by omega)).mp z) (by omega))) (fun _ => ?_)
      iterate 2 refine gG.step rfl (fun _ => rfl) ?_
      refine gG.bald (j := i) rfl (by rw [hI.t1]; exact h1) rfl (by omega) (by decide) ?_
      refine gG.step (L' := [some (.ref 6), some (.ref 1), some (.int (nI p)), some (.int (nI q)), some (.int (nI dg)), some (.int (nI i)), some (.int (x i))]) rfl (fun _ => rfl) ?_
      iterate 2 refine gG.step rfl (fun _ => rfl) ?_
      refine gG.icmp (tgt := 31) rfl rfl (fun c => ?_) (fun c => ?_)
      case refine_2 =>
        rw [if_pos (show x i = 32 from Decidable.not_not.mp (fun z => c (c_ne.mpr z)))] at k
        refine gG.step rfl (fun _ => rfl) ?_
        refine gG.step (L' := [some (.ref 6), some (.ref 1), some (.int (nI p)), some (.int (nI q)), some (.int (nI 0)), some (.int (nI i)), some (.int (x i))]) rfl (fun _ => rfl) ?_
        refine gG.goto (tgt := 95) rfl rfl ?_
        refine gG.step rfl (fun _ => rfl) ?_
        refine gG.goto (tgt := 6) rfl rfl ?_
        have ih1 := ih (i + 1) 0 n g h (some (.int (x i))) (by omega) (by omega) hn (fun z => absurd z (by omega)) hI k
        rw [← nI_1 i] at ih1
        exact ih1
      case refine_1 =>
      rw [if_neg (show ¬ x i = 32 from c_ne.mp c)] at k
      refine gG.step rfl (fun _ => rfl) ?_
      refine gG.inv rfl (fun _ => rfl) (Nat.le_of_ble_eq_true rfl) rfl rfl (Nat.le_of_ble_eq_true rfl) ?_
      refine c_467 d (x i) h _ ?_
      show gG _ _ _ _ 36 _ [Value.int (bI (decide (dgt (x i))))] h Q
      by_cases hd : dgt (x i)
      case neg =>
        rw [if_pos (Or.inl hd)] at k
        rw [decide_eq_false hd]
        refine gG.ifc (tgt := 45) rfl rfl (fun _ => ?_) (fun c => absurd (by decide) c)
        refine gG.step rfl (fun _ => rfl) ?_
        exact gG.done rfl (fun _ => rfl) (k h hI)
      case pos =>
      rw [decide_eq_true hd]
      refine gG.ifc (tgt := 45) rfl rfl (fun c => absurd c (by decide)) (fun _ => ?_)
      iterate 2 refine gG.step rfl (fun _ => rfl) ?_
      by_cases h3 : 3 ≤ dg
      · rw [if_pos (Or.inr h3)] at k
        refine gG.icmp (tgt := 47) rfl rfl (fun c => absurd ((c_lt (b := 3) (by omega) (by decide)).mp c) (by omega)) (fun _ => ?_)
        refine gG.step rfl (fun _ => rfl) ?_
        exact gG.done rfl (fun _ => rfl) (k h hI)
      rw [if_neg (fun z => z.elim (fun y => y hd) h3)] at k
      refine gG.icmp (tgt := 47) rfl rfl (fun _ => ?_) (fun c => absurd ((c_lt (b := 3) (by omega) (by decide)).mpr (by omega)) c)
      refine gG.step rfl (fun _ => rfl) ?_
      -- the digit
      have at61 : ∀ (n : Nat) (g : Nat → Int32) (h : im_H), 1 ≤ n → n ≤ 5 → LC h0 h [.ref 7, v1, v2, v3, .int (nI n), v5, v6] g → (∀ h', LC h0 h' [.ref 7, v1, v2, v3, .int (nI (cSc x r (i + 1) (dg + 1) n (upd g (n - 1) (g (n - 1) * 10 + x i - 48))).2.1), v5, v6] (cSc x r (i + 1) (dg + 1) n (upd g (n - 1) (g (n - 1) * 10 + x i - 48))).2.2 → Q (some (.int (bI (cSc x r (i + 1) (dg + 1) n (upd g (n - 1) (g (n - 1) * 10 + x i - 48))).1))) h') → gG tb_T (gD (d + 2)) (some .boolean) cd_325 61 [some (.ref 6), some (.ref 1), some (.int (nI p)), some (.int (nI q)), some (.int (nI dg)), some (.int (nI i)), some (.int (x i))] [] h Q := by
        intro n g h hn1 hn5 hI k
        have en : nI n - 1 = nI (n - 1) := pk_sub (b := 1) hn1
        refine gG.step rfl (fun _ => rfl) ?_
        refine gG.get rfl (hI.2.1) rfl ?_
        refine gG.step rfl (fun _ => rfl) ?_
        refine gG.get rfl (hI.2.1) rfl ?_
        iterate 3 refine gG.step rfl (fun _ => rfl) ?_
        refine gG.get rfl (hI.2.1) rfl ?_
        refine gG.step rfl (fun _ => rfl) ?_
        refine gG.get rfl (hI.2.1) rfl ?_
        iterate 2 refine gG.step rfl (fun _ => rfl) ?_
        show gG _ _ _ _ 81 _ [Value.int (nI n - 1), Value.ref 7, Value.int (nI n - 1), Value.ref 7] h Q
        rw [en]
        refine gG.iald (j := n - 1) rfl hI.2.2 rfl (by omega) (by decide) ?_
        iterate 2 refine gG.step rfl (fun _ => rfl) ?_
        iterate 2 refine gG.step rfl (fun _ => rfl) ?_
        iterate 2 refine gG.step rfl (fun _ => rfl) ?_
        refine lAst (j := n - 1) hI rfl rfl (by omega) (fun h hI => ?_)
        refine gG.step rfl (fun _ => rfl) ?_
        refine gG.step rfl (fun _ => rfl) ?_
        refine gG.goto (tgt := 6) rfl rfl ?_
        have ih1 := ih (i + 1) (dg + 1) n _ h (some (.int (x i))) (by omega) (by omega) hn5 (fun _ _ => hn1) hI k
        rw [← nI_1 i, ← nI_1 dg] at ih1
        exact ih1
      by_cases h0' : dg = 0
      · rw [if_pos h0'] at k
        refine gG.ifc (tgt := 61) rfl rfl (fun c => absurd (by rw [h0']; rfl) (c_ne.mp c)) (fun _ => ?_)
        refine gG.step rfl (fun _ => rfl) ?_
        refine gG.vir rfl (hI.2.1) rfl rfl (Nat.le_of_ble_eq_true rfl) rfl rfl (Nat.le_of_ble_eq_true rfl) ?_
        refine c_326 (d + 1) hn hI (fun h5 => ?_) (fun h5 h hI => ?_)
        · rw [if_pos h5] at k
          refine gG.ifc (tgt := 61) rfl rfl (fun c => absurd c (by decide)) (fun _ => ?_)
          refine gG.step rfl (fun _ => rfl) ?_
          exact gG.done rfl (fun _ => rfl) (k h hI)
        · rw [if_neg (by omega)] at k
          refine gG.ifc (tgt := 61) rfl rfl (fun _ => ?_) (fun c => absurd (by decide) c)
          refine at61 (n + 1) _ h (by omega) (by omega) hI ?_
          rw [Nat.add_sub_cancel, h0']
          exact k
      · rw [if_neg h0'] at k
        refine gG.ifc (tgt := 61) rfl rfl (fun _ => ?_) (fun c => absurd (c_ne.mpr (nI_ne0 (by omega) (by omega))) c)
        exact at61 n g h (hdn (by omega) (by omega)) hn hI k
  exact key (q - p) p 3 0 g h none (by omega) (by omega) (by omega) (fun _ z => absurd z (by omega)) hI k
theorem c_327 (d : Nat) {v0 v1 v2 v4 v5 v6 : Value} {w : Int32} {g : Nat → Int32} (hI : LC h0 h [v0, v1, v2, .int w, v4, v5, v6] g) (k : Q (some (.int (mDue w))) h) : gC (gD (d + 1)) 327 [.ref 6] h Q := by
  refine gC.of (q := me_327.2) rfl (Nat.le_of_ble_eq_true rfl) rfl ?_
  refine gG.step (cd := cd_327) rfl (fun _ => rfl) ?_
  refine gG.get rfl (hI.2.1) rfl ?_
  by_cases w77 : w = 77
  · subst w77
    refine gG.tsw (off := 96) (tgt := 100) rfl rfl rfl ?_
    refine gG.step rfl (fun _ => rfl) ?_
    exact gG.done rfl (fun _ => rfl) (k)
  by_cases w80 : w = 80
  · subst w80
    refine gG.tsw (off := 100) (tgt := 104) rfl rfl rfl ?_
    refine gG.step rfl (fun _ => rfl) ?_
    exact gG.done rfl (fun _ => rfl) (k)
  by_cases w70 : w = 70
  · subst w70
    refine gG.tsw (off := 98) (tgt := 102) rfl rfl rfl ?_
    refine gG.step rfl (fun _ => rfl) ?_
    exact gG.done rfl (fun _ => rfl) (k)
  by_cases w79 : w = 79
  · subst w79
    refine gG.tsw (off := 102) (tgt := 106) rfl rfl rfl ?_
    refine gG.step rfl (fun _ => rfl) ?_
    exact gG.done rfl (fun _ => rfl) (k)
  by_cases w71 : w = 71
  · subst w71
    refine gG.tsw (off := 102) (tgt := 106) rfl rfl rfl ?_
    refine gG.step rfl (fun _ => rfl) ?_
    exact gG.done rfl (fun _ => rfl) (k)
  by_cases w86 : w = 86
  · subst w86
    refine gG.tsw (off := 102) (tgt := 106) rfl rfl rfl ?_
    refine gG.step rfl (fun _ => rfl) ?_
    exact gG.done rfl (fun _ => rfl) (k)
  by_cases w67 : w = 67
  · subst w67
    refine gG.tsw (off := 104) (tgt := 108) rfl rfl rfl ?_
    refine gG.step rfl (fun _ => rfl) ?_
    exact gG.done rfl (fun _ => rfl) (k)
  rw [mDue_m1 w77 w80 w70 w79 w71 w86 w67] at k
  refine gG.tsw (off := 106) (tgt := 110) rfl ?_ rfl ?_
  · have e77 : ¬ w.toInt = 77 := i_ne w77
    have e80 : ¬ w.toInt = 80 := i_ne w80
    have e70 : ¬ w.toInt = 70 := i_ne w70
    have e79 : ¬ w.toInt = 79 := i_ne w79
    have e71 : ¬ w.toInt = 71 := i_ne w71
    have e86 : ¬ w.toInt = 86 := i_ne w86
    have e67 : ¬ w.toInt = 67 := i_ne w67
    unfold im_tsw
    by_cases ho : w.toInt < 67 ∨ 86 < w.toInt
    · rw [if_pos ho]
    · rw [if_neg ho]
      have h0 : 0 ≤ w.toInt - 67 := by omega
      have h20 : w.toInt - 67 < 20 := by omega
      obtain ⟨j, hj⟩ := Int.eq_ofNat_of_zero_le h0
      rw [hj]
      have hjl : j < 20 := by omega
      have hne : j ≠ 0 ∧ j ≠ 3 ∧ j ≠ 4 ∧ j ≠ 10 ∧ j ≠ 12 ∧ j ≠ 13 ∧ j ≠ 19 := by omega
      have key : ∀ j : Fin 20, j.val ≠ 0 ∧ j.val ≠ 3 ∧ j.val ≠ 4 ∧ j.val ≠ 10 ∧ j.val ≠ 12 ∧ j.val ≠ 13 ∧ j.val ≠ 19 → (#[104, 106, 106, 98, 102, 106, 106, 106, 106, 106, 96, 106, 102, 100, 106, 106, 106, 106, 106, 102] : Array Int)[j.val]? = some 106 := by decide
      exact key ⟨j, hjl⟩ hne
  refine gG.step rfl (fun _ => rfl) ?_
  exact gG.done rfl (fun _ => rfl) (k)
end CLIN2
