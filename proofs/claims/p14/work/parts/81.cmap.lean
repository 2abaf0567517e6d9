/-! maps and editions: what is looked up -/
def CSh (h : im_H) (sh : Value) (g : Nat → Int32) (tx : Nat → Int32) : Prop := (g 13 = 0 ∧ sh = .null) ∨ (¬ g 13 = 0 ∧ ∃ (a : Nat) (y : Nat → Int32), sh = .ref a ∧ 25 ≤ a ∧ h[a]? = some (.inl (1, nv (g 13), .inl y)) ∧ ∀ j, j < nv (g 13) → y j = tx (nv (g 12) + j))
def CFd (h : im_H) (o : Nat) (g : Nat → Int32) (oc pi pl : Int32) (tx : Nat → Int32) : Prop := 25 ≤ o ∧ ∃ sh, h[o]? = some (.inr (3, cF g oc pi sh pl)) ∧ CSh h sh g tx
/-- where editions, maps and fields lie -/
abbrev Bk : Type := (Nat → Nat) × (Nat → Nat) × (Nat → Nat → Nat)
def gF (t : Nat → Nat → Int32) (m f : Nat) : Nat → Int32 := fun w => t 8 (fI m f w)
/-- has a field with a cursor -/
def hC (t : Nat → Nat → Int32) (m : Nat) : Bool := (sr (mCurP t m) (nv (t 7 m)) 0).isSome
def cM (A : Bk) (t : Nat → Nat → Int32) (m : Nat) (lb : Int32) : List Value := [.int (t 4 m), .int (t 5 m), .int (t 6 m), .ref (A.2.1 m + 1), .int (t 7 m), .int (bI (hC t m)), .int lb]
/-- a map's cells -/
def CMp (A : Bk) (h : im_H) (t : Nat → Nat → Int32) (m : Nat) (lb : Int32) (pl : Nat → Int32) (P : Nat → Int32 → Int32 → Prop) (tx : Nat → Int32) : Prop :=
  25 ≤ A.2.1 m ∧ h[A.2.1 m]? = some (.inr (6, cM A t m lb)) ∧ (∃ g, h[A.2.1 m + 1]? = some (.inl (6, 30, .inr (.inr (.inr (.inr g))))) ∧ ∀ f, f < nv (t 7 m) → g f = some (A.2.2 m f)) ∧
  ∀ f, f < nv (t 7 m) → ∃ oc pi, P f oc pi ∧ CFd h (A.2.2 m f) (gF t m f) oc pi (pl f) tx
section CMAP
variable {A : Bk} {h : im_H} {t : Nat → Nat → Int32} {m : Nat} {lb : Int32} {pl : Nat → Int32} {P : Nat → Int32 → Int32 → Prop} {tx : Nat → Int32} {Q : Option Value → im_H → Prop}
theorem CMp.fld (hm : CMp A h t m lb pl P tx) {f : Nat} (hf : f < nv (t 7 m)) : ∃ oc pi sh, P f oc pi ∧ h[A.2.2 m f]? = some (.inr (3, cF (gF t m f) oc pi sh (pl f))) ∧ CSh h sh (gF t m f) tx := by
  obtain ⟨oc, pi, hp, -, sh, h1, h2⟩ := hm.2.2.2 f hf
  exact ⟨oc, pi, sh, hp, h1, h2⟩
/-- fieldNamed -/
def cNm (t : Nat → Nat → Int32) (m : Nat) (name : Int32) : Option Nat := if name = 0 then none else sr (fun f => decide (t 8 (fI m f 0) = name)) (nv (t 7 m)) 0
theorem c_385 (d : Nat) (hm : CMp A h t m lb pl P tx) (h7 : ps (t 7 m) 30) (name : Int32) (k : Q (some (va_rf ((cNm t m name).map (A.2.2 m)))) h) : gC (gD (d + 1)) 385 [.ref (A.2.1 m), .int name] h Q := by
  have ho := hm.2.1
  obtain ⟨ga, hga, hgf⟩ := hm.2.2.1
  refine gC.of (q := me_385.2) rfl (Nat.le_of_ble_eq_true rfl) rfl ?_
  refine gG.step (cd := cd_385) rfl (fun _ => rfl) ?_
  unfold cNm at k
  refine gG.ifc (tgt := 6) rfl rfl (fun c => ?_) (fun c => ?_)
  case refine_2 =>
    rw [if_pos (Decidable.not_not.mp (fun z => c (c_ne.mpr z)))] at k
    refine gG.step rfl (fun _ => rfl) ?_
    exact gG.done rfl (fun _ => rfl) (k)
  case refine_1 =>
  rw [if_neg (c_ne.mp c)] at k
  obtain ⟨n, hn, e7⟩ := ps_ex h7
  have e7n : nv (t 7 m) = n := by rw [e7, nv_nI (by omega)]
  rw [e7n] at k hgf
  refine gG.step rfl (fun _ => rfl) ?_
  refine gG.step (L' := [some (.ref (A.2.1 m)), some (.int name), some (.int (nI 0))]) rfl (fun _ => rfl) ?_
  have key : ∀ (r i : Nat), i + r = n → Q (some (va_rf ((sr (fun f => decide (t 8 (fI m f 0) = name)) r i).map (A.2.2 m)))) h → gG tb_T (gD d) (some (.object "MapText$Field")) cd_385 8 [some (.ref (A.2.1 m)), some (.int name), some (.int (nI i))] [] h Q := by
    intro r
    induction r with
    | zero =>
      intro i hi k
      iterate 2 refine gG.step rfl (fun _ => rfl) ?_
      refine gG.get rfl (ho) rfl ?_
      rw [e7]
      refine gG.icmp (tgt := 42) rfl rfl (fun _ => ?_) (fun c => absurd ((c_ge (by omega) (by omega)).mpr (by omega)) c)
      refine gG.step rfl (fun _ => rfl) ?_
      exact gG.done rfl (fun _ => rfl) (k)
    | succ r ih =>
      intro i hi k
      rw [sr] at k
      obtain ⟨oc, pi, sh, -, hx, -⟩ := hm.fld (f := i) (by omega)
      iterate 2 refine gG.step rfl (fun _ => rfl) ?_
      refine gG.get rfl (ho) rfl ?_
      rw [e7]
      refine gG.icmp (tgt := 42) rfl rfl (fun c => absurd c (fun z => absurd ((c_ge (by omega) (by omega)).mp z) (by omega))) (fun _ => ?_)
      refine gG.step rfl (fun _ => rfl) ?_
      refine gG.get rfl (ho) rfl ?_
      refine gG.step rfl (fun _ => rfl) ?_
      refine gG.aal (j := i) rfl hga (hgf i (by omega)) rfl (show i < 30 by omega) (by decide) ?_
      refine gG.get rfl (hx) rfl ?_
      refine gG.step rfl (fun _ => rfl) ?_
      refine gG.icmp (tgt := 36) rfl rfl (fun c => ?_) (fun c => ?_)
      · rw [if_neg (show ¬ decide (t 8 (fI m i 0) = name) = true from fun z => c_ne.mp c (of_decide_eq_true z))] at k
        refine gG.step rfl (fun _ => rfl) ?_
        refine gG.goto (tgt := 8) rfl rfl ?_
        have ih1 := ih (i + 1) (by omega) k
        rw [← nI_1 i] at ih1
        exact ih1
      · rw [if_pos (decide_eq_true (show t 8 (fI m i 0) = name from Decidable.not_not.mp (fun z => c (c_ne.mpr z))))] at k
        refine gG.step rfl (fun _ => rfl) ?_
        refine gG.get rfl (ho) rfl ?_
        refine gG.step rfl (fun _ => rfl) ?_
        refine gG.aal (j := i) rfl hga (hgf i (by omega)) rfl (show i < 30 by omega) (by decide) ?_
        exact gG.done rfl (fun _ => rfl) (k)
  exact key n 0 (by omega) k
/-- firstNamedFrom -/
def cFn (t : Nat → Nat → Int32) (m i : Nat) : Nat := match sr (fun f => !decide (t 8 (fI m f 0) = 0)) (nv (t 7 m) - i) i with
  | none => nv (t 7 m)
  | some f => f
theorem c_386 (d : Nat) (hm : CMp A h t m lb pl P tx) (h7 : ps (t 7 m) 30) {i : Nat} (hi : i ≤ nv (t 7 m)) (k : Q (some (.int (nI (cFn t m i)))) h) : gC (gD (d + 2)) 386 [.ref (A.2.1 m), .int (nI i)] h Q := by
  have ho := hm.2.1
  obtain ⟨ga, hga, hgf⟩ := hm.2.2.1
  refine gC.of (q := me_386.2) rfl (Nat.le_of_ble_eq_true rfl) rfl ?_
  refine gG.step (cd := cd_386) rfl (fun _ => rfl) ?_
  unfold cFn at k
  obtain ⟨n, hn, e7⟩ := ps_ex h7
  have e7n : nv (t 7 m) = n := by rw [e7, nv_nI (by omega)]
  rw [e7n] at k hgf hi
  refine gG.step (L' := [some (.ref (A.2.1 m)), some (.int (nI i)), some (.int (nI i))]) rfl (fun _ => rfl) ?_
  have key : ∀ (r j : Nat), j + r = n → Q (some (.int (nI (match sr (fun f => !decide (t 8 (fI m f 0) = 0)) r j with | none => n | some f => f)))) h → gG tb_T (gD (d + 1)) (some .int) cd_386 2 [some (.ref (A.2.1 m)), some (.int (nI i)), some (.int (nI j))] [] h Q := by
    intro r
    induction r with
    | zero =>
      intro j hj k
      iterate 2 refine gG.step rfl (fun _ => rfl) ?_
      refine gG.get rfl (ho) rfl ?_
      rw [e7]
      refine gG.icmp (tgt := 30) rfl rfl (fun _ => ?_) (fun c => absurd ((c_ge (by omega) (by omega)).mpr (by omega)) c)
      refine gG.step rfl (fun _ => rfl) ?_
      refine gG.get rfl (ho) rfl ?_
      rw [e7]
      exact gG.done rfl (fun _ => rfl) (k)
    | succ r ih =>
      intro j hj k
      rw [sr] at k
      obtain ⟨oc, pi, sh, -, hx, -⟩ := hm.fld (f := j) (by omega)
      iterate 2 refine gG.step rfl (fun _ => rfl) ?_
      refine gG.get rfl (ho) rfl ?_
      rw [e7]
      refine gG.icmp (tgt := 30) rfl rfl (fun c => absurd c (fun z => absurd ((c_ge (by omega) (by omega)).mp z) (by omega))) (fun _ => ?_)
      refine gG.step rfl (fun _ => rfl) ?_
      refine gG.get rfl (ho) rfl ?_
      refine gG.step rfl (fun _ => rfl) ?_
      refine gG.aal (j := j) rfl hga (hgf j (by omega)) rfl (show j < 30 by omega) (by decide) ?_
      refine gG.vir rfl (hx) rfl rfl (Nat.le_of_ble_eq_true rfl) rfl rfl (Nat.le_of_ble_eq_true rfl) ?_
      refine c_193 d hx ?_
      show gG _ _ _ _ 19 _ [Value.int (bI (decide (t 8 (fI m j 0) = 0)))] h Q
      by_cases hz : t 8 (fI m j 0) = 0
      · rw [decide_eq_true hz] at k ⊢
        refine gG.ifc (tgt := 24) rfl rfl (fun _ => ?_) (fun c => absurd (by decide) c)
        refine gG.step rfl (fun _ => rfl) ?_
        refine gG.goto (tgt := 2) rfl rfl ?_
        have ih1 := ih (j + 1) (by omega) k
        rw [← nI_1 j] at ih1
        exact ih1
      · rw [decide_eq_false hz] at k ⊢
        refine gG.ifc (tgt := 24) rfl rfl (fun c => absurd c (by decide)) (fun _ => ?_)
        refine gG.step rfl (fun _ => rfl) ?_
        exact gG.done rfl (fun _ => rfl) (k)
  exact key (n - i) i (by omega) k
/-- latestOfGroup -/
theorem c_387 (d : Nat) (hm : CMp A h t m lb pl P tx) (h7 : ps (t 7 m) 30) (gr : Int32) (k : Q (some (va_rf ((mBf t m gr (nv (t 7 m))).map (A.2.2 m)))) h) : gC (gD (d + 1)) 387 [.ref (A.2.1 m), .int gr] h Q := by
  have ho := hm.2.1
  obtain ⟨ga, hga, hgf⟩ := hm.2.2.1
  refine gC.of (q := me_387.2) rfl (Nat.le_of_ble_eq_true rfl) rfl ?_
  refine gG.step (cd := cd_387) rfl (fun _ => rfl) ?_
  obtain ⟨n, hn, e7⟩ := ps_ex h7
  have e7n : nv (t 7 m) = n := by rw [e7, nv_nI (by omega)]
  rw [e7n] at k hgf
  refine gG.get rfl (ho) rfl ?_
  rw [e7]
  iterate 2 refine gG.step rfl (fun _ => rfl) ?_
  refine gG.step (L' := [some (.ref (A.2.1 m)), some (.int gr), some (.int (nI n - 1))]) rfl (fun _ => rfl) ?_
  have key : ∀ (i : Nat), i ≤ n → Q (some (va_rf ((mBf t m gr i).map (A.2.2 m)))) h → gG tb_T (gD d) (some (.object "MapText$Field")) cd_387 7 [some (.ref (A.2.1 m)), some (.int gr), some (.int (nI i - 1))] [] h Q := by
    intro i
    induction i with
    | zero =>
      intro hi k
      refine gG.step rfl (fun _ => rfl) ?_
      refine gG.ifc (tgt := 37) rfl rfl (fun _ => ?_) (fun c => absurd (by decide) c)
      refine gG.step rfl (fun _ => rfl) ?_
      exact gG.done rfl (fun _ => rfl) (k)
    | succ i ih =>
      intro hi k
      rw [nI_pred]
      rw [mBf] at k
      obtain ⟨oc, pi, sh, -, hx, -⟩ := hm.fld (f := i) (by omega)
      refine gG.step rfl (fun _ => rfl) ?_
      refine gG.ifc (tgt := 37) rfl rfl (fun c => absurd c (c_ltn (by omega))) (fun _ => ?_)
      refine gG.step rfl (fun _ => rfl) ?_
      refine gG.get rfl (ho) rfl ?_
      refine gG.step rfl (fun _ => rfl) ?_
      refine gG.aal (j := i) rfl hga (hgf i (by omega)) rfl (show i < 30 by omega) (by decide) ?_
      refine gG.get rfl (hx) rfl ?_
      refine gG.step rfl (fun _ => rfl) ?_
      refine gG.icmp (tgt := 31) rfl rfl (fun c => ?_) (fun c => ?_)
      · rw [if_neg (show ¬ t 8 (fI m i 6) = gr from c_ne.mp c)] at k
        refine gG.step rfl (fun _ => rfl) ?_
        refine gG.goto (tgt := 7) rfl rfl ?_
        have ih1 := ih (by omega) k
        rw [Int32.sub_eq_add_neg] at ih1
        exact ih1
      · rw [if_pos (show t 8 (fI m i 6) = gr from Decidable.not_not.mp (fun z => c (c_ne.mpr z)))] at k
        refine gG.step rfl (fun _ => rfl) ?_
        refine gG.get rfl (ho) rfl ?_
        refine gG.step rfl (fun _ => rfl) ?_
        refine gG.aal (j := i) rfl hga (hgf i (by omega)) rfl (show i < 30 by omega) (by decide) ?_
        exact gG.done rfl (fun _ => rfl) (k)
  exact key n (by omega) k
/-- firstOver, among the first q -/
def cOvO (t : Nat → Nat → Int32) (m q : Nat) (row col wd : Int32) : Option Nat := sr (fun f => cOv (gF t m f) row col wd) q 0
theorem c_388 (d : Nat) (hm : CMp A h t m lb pl P tx) (h7 : ps (t 7 m) 30) {q : Nat} (hq : q ≤ nv (t 7 m)) (row col wd : Int32) (k : Q (some (.int (oI (cOvO t m q row col wd)))) h) : gC (gD (d + 2)) 388 [.ref (A.2.1 m), .int (nI q), .int row, .int col, .int wd] h Q := by
  have ho := hm.2.1
  obtain ⟨ga, hga, hgf⟩ := hm.2.2.1
  refine gC.of (q := me_388.2) rfl (Nat.le_of_ble_eq_true rfl) rfl ?_
  refine gG.step (cd := cd_388) rfl (fun _ => rfl) ?_
  unfold cOvO at k
  obtain ⟨n, hn, e7⟩ := ps_ex h7
  have e7n : nv (t 7 m) = n := by rw [e7, nv_nI (by omega)]
  rw [e7n] at hgf hq
  refine gG.step (L' := [some (.ref (A.2.1 m)), some (.int (nI q)), some (.int row), some (.int col), some (.int wd), some (.int (nI 0))]) rfl (fun _ => rfl) ?_
  have key : ∀ (r i : Nat), i + r = q → Q (some (.int (oI (sr (fun f => cOv (gF t m f) row col wd) r i)))) h → gG tb_T (gD (d + 1)) (some .int) cd_388 3 [some (.ref (A.2.1 m)), some (.int (nI q)), some (.int row), some (.int col), some (.int wd), some (.int (nI i))] [] h Q := by
    intro r
    induction r with
    | zero =>
      intro i hi k
      iterate 2 refine gG.step rfl (fun _ => rfl) ?_
      refine gG.icmp (tgt := 44) rfl rfl (fun _ => ?_) (fun c => absurd ((c_ge (by omega) (by omega)).mpr (by omega)) c)
      refine gG.step rfl (fun _ => rfl) ?_
      exact gG.done rfl (fun _ => rfl) (k)
    | succ r ih =>
      intro i hi k
      rw [sr] at k
      obtain ⟨oc, pi, sh, -, hx, -⟩ := hm.fld (f := i) (by omega)
      iterate 2 refine gG.step rfl (fun _ => rfl) ?_
      refine gG.icmp (tgt := 44) rfl rfl (fun c => absurd c (fun z => absurd ((c_ge (by omega) (by omega)).mp z) (by omega))) (fun _ => ?_)
      iterate 2 refine gG.step rfl (fun _ => rfl) ?_
      refine gG.get rfl (ho) rfl ?_
      rw [e7]
      refine gG.icmp (tgt := 44) rfl rfl (fun c => absurd c (fun z => absurd ((c_ge (by omega) (by omega)).mp z) (by omega))) (fun _ => ?_)
      refine gG.step rfl (fun _ => rfl) ?_
      refine gG.get rfl (ho) rfl ?_
      refine gG.step rfl (fun _ => rfl) ?_
      refine gG.aal (j := i) rfl hga (hgf i (by omega)) rfl (show i < 30 by omega) (by decide) ?_
      iterate 3 refine gG.step rfl (fun _ => rfl) ?_
      refine gG.vir rfl (hx) rfl rfl (Nat.le_of_ble_eq_true rfl) rfl rfl (Nat.le_of_ble_eq_true rfl) ?_
      refine c_198 d row col wd hx ?_
      show gG _ _ _ _ 32 _ [Value.int (bI (cOv (gF t m i) row col wd))] h Q
      cases hz : cOv (gF t m i) row col wd with
      | false =>
        rw [hz] at k
        refine gG.ifc (tgt := 38) rfl rfl (fun _ => ?_) (fun c => absurd (by decide) c)
        refine gG.step rfl (fun _ => rfl) ?_
        refine gG.goto (tgt := 3) rfl rfl ?_
        have ih1 := ih (i + 1) (by omega) k
        rw [← nI_1 i] at ih1
        exact ih1
      | true =>
        rw [hz] at k
        refine gG.ifc (tgt := 38) rfl rfl (fun c => absurd c (by decide)) (fun _ => ?_)
        refine gG.step rfl (fun _ => rfl) ?_
        exact gG.done rfl (fun _ => rfl) (k)
  exact key q 0 (by omega) k
/-- groupWidth -/
def cGw (t : Nat → Nat → Int32) (m : Nat) (gr : Int32) : Nat → Int32
  | 0 => 0
  | f + 1 => if t 8 (fI m f 6) = gr then cGw t m gr f + (t 8 (fI m f 3) + 1) * t 8 (fI m f 5) else cGw t m gr f
theorem c_389 (d : Nat) (hm : CMp A h t m lb pl P tx) (h7 : ps (t 7 m) 30) (gr : Int32) (k : Q (some (.int (cGw t m gr (nv (t 7 m))))) h) : gC (gD (d + 1)) 389 [.ref (A.2.1 m), .int gr] h Q := by
  have ho := hm.2.1
  obtain ⟨ga, hga, hgf⟩ := hm.2.2.1
  refine gC.of (q := me_389.2) rfl (Nat.le_of_ble_eq_true rfl) rfl ?_
  iterate 3 refine gG.step (cd := cd_389) rfl (fun _ => rfl) ?_
  obtain ⟨n, hn, e7⟩ := ps_ex h7
  have e7n : nv (t 7 m) = n := by rw [e7, nv_nI (by omega)]
  rw [e7n] at k hgf
  refine gG.step (L' := [some (.ref (A.2.1 m)), some (.int gr), some (.int (cGw t m gr 0)), some (.int (nI 0))]) rfl (fun _ => rfl) ?_
  have key : ∀ (r i : Nat), i + r = n → gG tb_T (gD d) (some .int) cd_389 4 [some (.ref (A.2.1 m)), some (.int gr), some (.int (cGw t m gr i)), some (.int (nI i))] [] h Q := by
    intro r
    induction r with
    | zero =>
      intro i hi
      have hi : i = n := by omega
      subst hi
      iterate 2 refine gG.step rfl (fun _ => rfl) ?_
      refine gG.get rfl (ho) rfl ?_
      rw [e7]
      refine gG.icmp (tgt := 43) rfl rfl (fun _ => ?_) (fun c => absurd ((c_ge (by omega) (by omega)).mpr (by omega)) c)
      refine gG.step rfl (fun _ => rfl) ?_
      exact gG.done rfl (fun _ => rfl) (k)
    | succ r ih =>
      intro i hi
      obtain ⟨oc, pi, sh, -, hx, -⟩ := hm.fld (f := i) (by omega)
      have ih1 := ih (i + 1) (by omega)
      rw [← nI_1 i, cGw] at ih1
      iterate 2 refine gG.step rfl (fun _ => rfl) ?_
      refine gG.get rfl (ho) rfl ?_
      rw [e7]
      refine gG.icmp (tgt := 43) rfl rfl (fun c => absurd c (fun z => absurd ((c_ge (by omega) (by omega)).mp z) (by omega))) (fun _ => ?_)
      refine gG.step rfl (fun _ => rfl) ?_
      refine gG.get rfl (ho) rfl ?_
      refine gG.step rfl (fun _ => rfl) ?_
      refine gG.aal (j := i) rfl hga (hgf i (by omega)) rfl (show i < 30 by omega) (by decide) ?_
      refine gG.get rfl (hx) rfl ?_
      refine gG.step rfl (fun _ => rfl) ?_
      refine gG.icmp (tgt := 37) rfl rfl (fun c => ?_) (fun c => ?_)
      · rw [if_neg (show ¬ t 8 (fI m i 6) = gr from c_ne.mp c)] at ih1
        refine gG.step rfl (fun _ => rfl) ?_
        refine gG.goto (tgt := 4) rfl rfl ?_
        exact ih1
      · rw [if_pos (show t 8 (fI m i 6) = gr from Decidable.not_not.mp (fun z => c (c_ne.mpr z)))] at ih1
        iterate 2 refine gG.step rfl (fun _ => rfl) ?_
        refine gG.get rfl (ho) rfl ?_
        refine gG.step rfl (fun _ => rfl) ?_
        refine gG.aal (j := i) rfl hga (hgf i (by omega)) rfl (show i < 30 by omega) (by decide) ?_
        refine gG.get rfl (hx) rfl ?_
        refine gG.step rfl (fun _ => rfl) ?_
        refine gG.step rfl (fun _ => rfl) ?_
        refine gG.step rfl (fun _ => rfl) ?_
        refine gG.goto (tgt := 4) rfl rfl ?_
        exact ih1
  exact key n 0 (by omega)
end CMAP
