theorem c_201 (d : Nat) {h : im_H} {o : Nat} {g : Nat → Int32} {oc pi pl : Int32} {sh : Value} {tx : Nat → Int32} (hx : h[o]? = some (.inr (3, cF g oc pi sh pl))) (hs : CSh h sh g tx) (hF : FF g) (col : Int32) (Q : Option Value → im_H → Prop) (k : Q (some (.int (cSa g tx col))) h) : gC (gD (d + 2)) 201 [.ref o, .int col] h Q := by
  refine gC.of (q := me_201.2) rfl (Nat.le_of_ble_eq_true rfl) rfl ?_
  refine gG.step (cd := cd_201) rfl (fun _ => rfl) ?_
  refine gG.get rfl (hx) rfl ?_
  unfold cSa at k
  dsimp only at k
  rcases hs with ⟨h13, rfl⟩ | ⟨h13, a, y, rfl, ha, hy, hyt⟩
  · rw [if_pos (Or.inl h13)] at k
    refine gG.jmp (tgt := 24) rfl (fun _ => rfl) rfl ?_
    refine gG.step rfl (fun _ => rfl) ?_
    exact gG.done rfl (fun _ => rfl) (k)
  · refine gG.step rfl (fun _ => rfl) ?_
    iterate 2 refine gG.step rfl (fun _ => rfl) ?_
    refine gG.vir rfl (hx) rfl rfl (Nat.le_of_ble_eq_true rfl) rfl rfl (Nat.le_of_ble_eq_true rfl) ?_
    refine c_194 d 8 hx ?_
    show gG _ _ _ _ 13 _ [Value.int (bI (!decide (g 4 &&& 8 = 0)))] h Q
    by_cases h8 : g 4 &&& 8 = 0
    case neg =>
      rw [if_pos (Or.inr (Or.inl h8))] at k
      rw [decide_eq_false h8]
      refine gG.ifc (tgt := 24) rfl rfl (fun _ => ?_) (fun c => absurd (by decide) c)
      refine gG.step rfl (fun _ => rfl) ?_
      exact gG.done rfl (fun _ => rfl) (k)
    case pos =>
    rw [decide_eq_true h8]
    refine gG.ifc (tgt := 24) rfl rfl (fun c => absurd c (by decide)) (fun _ => ?_)
    iterate 2 refine gG.step rfl (fun _ => rfl) ?_
    refine gG.get rfl (hx) rfl ?_
    refine gG.icmp (tgt := 27) rfl rfl (fun c => ?_) (fun c => ?_)
    case refine_2 =>
      rw [if_pos (Or.inr (Or.inr (show col < g 2 from Int32.not_le.mp (fun z => c (decide_eq_true z)))))] at k
      refine gG.step rfl (fun _ => rfl) ?_
      exact gG.done rfl (fun _ => rfl) (k)
    case refine_1 =>
    have hlt : ¬ col < g 2 := Int32.not_lt.mpr (of_decide_eq_true c)
    rw [if_neg (fun z => z.elim h13 (fun z => z.elim (fun z => z h8) hlt))] at k
    have p3 := hF.1 3 (by decide)
    have p13 := hF.1 13 (by decide)
    have b3 : fB 3 = 80 := rfl
    have b13 : fB 13 = 80 := rfl
    have hne : ¬ g 3 + 1 = 0 := by
      rw [p3.1, nI_1]
      exact nI_ne0 (by omega) (by have := p3.2; omega)
    iterate 2 refine gG.step rfl (fun _ => rfl) ?_
    refine gG.get rfl (hx) rfl ?_
    iterate 2 refine gG.step rfl (fun _ => rfl) ?_
    refine gG.get rfl (hx) rfl ?_
    iterate 2 refine gG.step rfl (fun _ => rfl) ?_
    refine gG.irem rfl hne ?_
    iterate 2 refine gG.step rfl (fun _ => rfl) ?_
    generalize hkk : (col - g 2) - (col - g 2) / (g 3 + 1) * (g 3 + 1) - 1 = kk at k
    show gG _ _ _ _ 42 _ [Value.int ((col - g 2) - (col - g 2) / (g 3 + 1) * (g 3 + 1) - 1)] h Q
    rw [hkk]
    refine gG.step (L' := [some (.ref o), some (.int col), some (.int kk)]) rfl (fun _ => rfl) ?_
    refine gG.step rfl (fun _ => rfl) ?_
    refine gG.ifc (tgt := 65) rfl rfl (fun c => ?_) (fun c => ?_)
    · have hc : kk < 0 := of_decide_eq_true c
      rw [if_neg (fun z => Int32.not_lt.mpr z.1 hc)] at k
      refine gG.step rfl (fun _ => rfl) ?_
      exact gG.done rfl (fun _ => rfl) (k)
    · have hc : 0 ≤ kk := Int32.not_lt.mp (fun z => c (decide_eq_true z))
      iterate 2 refine gG.step rfl (fun _ => rfl) ?_
      refine gG.get rfl (hx) rfl ?_
      refine gG.alen rfl hy rfl ?_
      rw [← p13.1]
      refine gG.icmp (tgt := 65) rfl rfl (fun c => ?_) (fun c => ?_)
      · have hc2 : g 13 ≤ kk := of_decide_eq_true c
        rw [if_neg (fun z => Int32.not_lt.mpr hc2 z.2)] at k
        refine gG.step rfl (fun _ => rfl) ?_
        exact gG.done rfl (fun _ => rfl) (k)
      · have hc2 : kk < g 13 := Int32.not_le.mp (fun z => c (decide_eq_true z))
        rw [if_pos ⟨hc, hc2⟩] at k
        have hc3 : kk < nI (nv (g 13)) := by rw [← p13.1]; exact hc2
        obtain ⟨j, hj, hje⟩ : ∃ j, j < nv (g 13) ∧ kk = nI j := by
          rcases pk_ix kk (n := nv (g 13)) (by have := p13.2; omega) with h1 | h1 | h1
          · exact absurd hc (Int32.not_le.mpr h1)
          · exact absurd hc3 (Int32.not_lt.mpr h1)
          · exact h1
        refine gG.step rfl (fun _ => rfl) ?_
        refine gG.get rfl (hx) rfl ?_
        refine gG.step rfl (fun _ => rfl) ?_
        refine gG.bald (j := j) rfl hy hje hj (by have := p13.2; omega) ?_
        rw [hyt j hj]
        rw [hje, nv_nI (by have := p13.2; omega)] at k
        refine gG.goto (tgt := 67) rfl rfl ?_
        exact gG.done rfl (fun _ => rfl) (k)
/-- an edition's cells -/
def CEd (A : Bk) (h : im_H) (t : Nat → Nat → Int32) (e : Nat) (lb : Nat → Int32) (pl : Nat → Nat → Int32) (P : Nat → Nat → Int32 → Int32 → Prop) (tx : Nat → Int32) : Prop :=
  h[A.1 e]? = some (.inr (2, [.ref (A.1 e + 1), .int (t 3 e)])) ∧ (∃ g, h[A.1 e + 1]? = some (.inl (9, 8, .inr (.inr (.inr (.inr g))))) ∧ ∀ k, k < nv (t 3 e) → g k = some (A.2.1 (8 * e + k))) ∧
  ∀ k, k < nv (t 3 e) → CMp A h t (8 * e + k) (lb (8 * e + k)) (pl (8 * e + k)) (P (8 * e + k)) tx
theorem c_129 (d : Nat) {A : Bk} {h : im_H} {t : Nat → Nat → Int32} {e : Nat} {lb : Nat → Int32} {pl : Nat → Nat → Int32} {P : Nat → Nat → Int32 → Int32 → Prop} {tx : Nat → Int32} (hE : CEd A h t e lb pl P tx) (h3 : ps (t 3 e) 8) (name : Int32) (Q : Option Value → im_H → Prop) (k : Q (some (va_rf ((mMapO t e name).map A.2.1))) h) : gC (gD (d + 1)) 129 [.ref (A.1 e), .int name] h Q := by
  have ho := hE.1
  obtain ⟨ga, hga, hgf⟩ := hE.2.1
  refine gC.of (q := me_129.2) rfl (Nat.le_of_ble_eq_true rfl) rfl ?_
  refine gG.step (cd := cd_129) rfl (fun _ => rfl) ?_
  obtain ⟨n, hn, e3⟩ := ps_ex h3
  have e3n : nv (t 3 e) = n := by rw [e3, nv_nI (by omega)]
  unfold mMapO at k
  rw [e3n] at k hgf
  refine gG.step (L' := [some (.ref (A.1 e)), some (.int name), some (.int (nI 0))]) rfl (fun _ => rfl) ?_
  have key : ∀ (r i : Nat), i + r = n → Q (some (va_rf (((sr (mMapP t e name) r i).map fun k => 8 * e + k).map A.2.1))) h → gG tb_T (gD d) (some (.object "MapText$ScreenMap")) cd_129 2 [some (.ref (A.1 e)), some (.int name), some (.int (nI i))] [] h Q := by
    intro r
    induction r with
    | zero =>
      intro i hi k
      iterate 2 refine gG.step rfl (fun _ => rfl) ?_
      refine gG.get rfl (ho) rfl ?_
      rw [e3]
      refine gG.icmp (tgt := 36) rfl rfl (fun _ => ?_) (fun c => absurd ((c_ge (by omega) (by omega)).mpr (by omega)) c)
      refine gG.step rfl (fun _ => rfl) ?_
      exact gG.done rfl (fun _ => rfl) (k)
    | succ r ih =>
      intro i hi k
      rw [sr] at k
      have hm := (hE.2.2 i (by omega)).2.1
      iterate 2 refine gG.step rfl (fun _ => rfl) ?_
      refine gG.get rfl (ho) rfl ?_
      rw [e3]
      refine gG.icmp (tgt := 36) rfl rfl (fun c => absurd c (fun z => absurd ((c_ge (by omega) (by omega)).mp z) (by omega))) (fun _ => ?_)
      refine gG.step rfl (fun _ => rfl) ?_
      refine gG.get rfl (ho) rfl ?_
      refine gG.step rfl (fun _ => rfl) ?_
      refine gG.aal (j := i) rfl hga (hgf i (by omega)) rfl (show i < 8 by omega) (by decide) ?_
      refine gG.get rfl (hm) rfl ?_
      refine gG.step rfl (fun _ => rfl) ?_
      refine gG.icmp (tgt := 30) rfl rfl (fun c => ?_) (fun c => ?_)
      · rw [if_neg (show ¬ mMapP t e name i = true from fun z => c_ne.mp c (of_decide_eq_true z))] at k
        refine gG.step rfl (fun _ => rfl) ?_
        refine gG.goto (tgt := 2) rfl rfl ?_
        have ih1 := ih (i + 1) (by omega) k
        rw [← nI_1 i] at ih1
        exact ih1
      · rw [if_pos (show mMapP t e name i = true from decide_eq_true (show t 4 (8 * e + i) = name from Decidable.not_not.mp (fun z => c (c_ne.mpr z))))] at k
        refine gG.step rfl (fun _ => rfl) ?_
        refine gG.get rfl (ho) rfl ?_
        refine gG.step rfl (fun _ => rfl) ?_
        refine gG.aal (j := i) rfl hga (hgf i (by omega)) rfl (show i < 8 by omega) (by decide) ?_
        exact gG.done rfl (fun _ => rfl) (k)
  exact key n 0 (by omega) k
theorem c_129e (d : Nat) {h : im_H} {o : Nat} {x : Value} (ho : h[o]? = some (.inr (2, [x, .int 0]))) (name : Int32) (Q : Option Value → im_H → Prop) (k : Q (some .null) h) : gC (gD (d + 1)) 129 [.ref o, .int name] h Q := by
  refine gC.of (q := me_129.2) rfl (Nat.le_of_ble_eq_true rfl) rfl ?_
  iterate 4 refine gG.step (cd := cd_129) rfl (fun _ => rfl) ?_
  refine gG.get rfl (ho) rfl ?_
  refine gG.icmp (tgt := 36) rfl rfl (fun _ => ?_) (fun c => absurd (by decide) c)
  refine gG.step rfl (fun _ => rfl) ?_
  exact gG.done rfl (fun _ => rfl) (k)
