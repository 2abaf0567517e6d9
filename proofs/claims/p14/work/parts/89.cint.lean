/-! WHAT COMES IN -/
def IC (h0 h : im_H) (l : List Value) : Prop := fr 10 11 h0 h ∧ h[10]? = some (.inr (4, l))
section CINT
variable {call : Nat → im_F} {ret : Option FieldType} {cd : List (Nat × im_X)} {pc : Nat} {L : im_L} {st : List Value} {h0 h : im_H} {Q : Option Value → im_H → Prop} {l : List Value}
theorem iPut {idx k : Nat} {v : Value} {l' : List Value} {ty : FieldType} (hI : IC h0 h l) (hf : im_f cd pc = some (.putfield idx, 4, k)) (hk : k < l.length) (hty : (tb_F 4)[k]? = some ty) (hfit : im_fit ty v = true) (hl : l.set k v = l') (kk : ∀ h', IC h0 h' l' → gG tb_T call ret cd (pc + 3) L st h' Q) : gG tb_T call ret cd pc L (v :: .ref 10 :: st) h Q := by
  subst hl
  refine gG.put hf hI.2 hk hty hfit (kk _ ⟨hI.1.set hI.2 ?_ (by decide) (by decide), set_at hI.2⟩)
  show (l.set k v).length = l.length
  rw [List.length_set]
end CINT
theorem CMp_fr {A : Bk} {h0 h : im_H} {t : Nat → Nat → Int32} {m : Nat} {lb : Int32} {pl : Nat → Int32} {P : Nat → Int32 → Int32 → Prop} {tx : Nat → Int32} (hk : ∀ k, 25 ≤ k → h[k]? = h0[k]?) (hm : CMp A h0 t m lb pl P tx) : CMp A h t m lb pl P tx :=
  CMp_keep (fun k hk' x hx => by rw [hk k hk']; exact hx) rfl (fun _ _ => rfl) (fun _ _ _ => rfl) (fun _ _ _ _ => rfl) rfl (fun _ _ => rfl) (fun _ _ _ _ h => h) (fun _ _ _ _ => rfl) hm
theorem IC.far {h0 h : im_H} {l : List Value} (hI : IC h0 h l) : ∀ k, 25 ≤ k → h[k]? = h0[k]? := fun k hk => hI.1.2.2 k (Or.inr (by omega))
/-- startTime -/
theorem c_259 (d : Nat) {h0 h : im_H} {Q : Option Value → im_H → Prop} {v0 v1 v2 v3 v4 v5 v6 v7 : Value} (hI : IC h0 h [v0, v1, v2, v3, v4, v5, v6, v7]) (k : ∀ h', IC h0 h' [v0, v1, v2, v3, v4, .int 0, .int 0, .int 1] → Q none h') : gC (gD (d + 1)) 259 [.ref 10] h Q := by
  refine gC.of (q := me_259.2) rfl (Nat.le_of_ble_eq_true rfl) rfl ?_
  iterate 2 refine gG.step (cd := cd_259) rfl (fun _ => rfl) ?_
  refine iPut hI rfl (Nat.le_of_ble_eq_true rfl) rfl rfl rfl (fun h hI => ?_)
  iterate 2 refine gG.step rfl (fun _ => rfl) ?_
  refine iPut hI rfl (Nat.le_of_ble_eq_true rfl) rfl rfl rfl (fun h hI => ?_)
  iterate 2 refine gG.step rfl (fun _ => rfl) ?_
  refine iPut hI rfl (Nat.le_of_ble_eq_true rfl) rfl rfl rfl (fun h hI => ?_)
  exact gG.done rfl (fun _ => rfl) (k h hI)
section CINT2
variable {A : Bk} {h0 h : im_H} {t : Nat → Nat → Int32} {m : Nat} {Q : Option Value → im_H → Prop}
/-- startAnew -/
theorem c_257 (d : Nat) {l : List Value} (hl : l.length = 8) (hI : IC h0 h l) (hm : CMp A h0 t m (lbS t m) (plS t m) (PT m) (t 2)) (h7 : ps (t 7 m) 30) (k : ∀ h', IC h0 h' (cI (.ref (A.2.1 m)) 0 (iS t m 0)) → Q none h') : gC (gD (d + 3)) 257 [.ref 10, .ref (A.2.1 m)] h Q := by
  obtain ⟨v0, v1, v2, v3, v4, v5, v6, v7, rfl⟩ : ∃ v0 v1 v2 v3 v4 v5 v6 v7, l = [v0, v1, v2, v3, v4, v5, v6, v7] := by
    match l, hl with
    | [v0, v1, v2, v3, v4, v5, v6, v7], _ => exact ⟨v0, v1, v2, v3, v4, v5, v6, v7, rfl⟩
  refine gC.of (q := me_257.2) rfl (Nat.le_of_ble_eq_true rfl) rfl ?_
  iterate 2 refine gG.step (cd := cd_257) rfl (fun _ => rfl) ?_
  refine iPut hI rfl (Nat.le_of_ble_eq_true rfl) rfl rfl rfl (fun h hI => ?_)
  iterate 2 refine gG.step rfl (fun _ => rfl) ?_
  refine iPut hI rfl (Nat.le_of_ble_eq_true rfl) rfl rfl rfl (fun h hI => ?_)
  iterate 2 refine gG.step rfl (fun _ => rfl) ?_
  refine iPut hI rfl (Nat.le_of_ble_eq_true rfl) rfl rfl rfl (fun h hI => ?_)
  iterate 2 refine gG.step rfl (fun _ => rfl) ?_
  refine gG.jmp (tgt := 24) rfl (fun _ => rfl) rfl ?_
  iterate 2 refine gG.step rfl (fun _ => rfl) ?_
  have hm' := CMp_fr hI.far hm
  refine gG.vir rfl (hm'.2.1) rfl rfl (Nat.le_of_ble_eq_true rfl) rfl rfl (Nat.le_of_ble_eq_true rfl) ?_
  refine c_386 d hm' h7 (i := 0) (Nat.zero_le _) ?_
  show gG _ _ _ _ 29 _ [Value.int (nI (cFn t m 0)), Value.ref 10] h Q
  refine iPut hI rfl (Nat.le_of_ble_eq_true rfl) rfl rfl rfl (fun h hI => ?_)
  iterate 2 refine gG.step rfl (fun _ => rfl) ?_
  refine iPut hI rfl (Nat.le_of_ble_eq_true rfl) rfl rfl rfl (fun h hI => ?_)
  refine gG.step rfl (fun _ => rfl) ?_
  refine gG.vir rfl (hI.2) rfl rfl (Nat.le_of_ble_eq_true rfl) rfl rfl (Nat.le_of_ble_eq_true rfl) ?_
  refine c_259 (d + 1) hI (fun h hI => ?_)
  exact gG.done rfl (fun _ => rfl) (k h hI)
theorem c_257n (d : Nat) {l : List Value} (hl : l.length = 8) (hI : IC h0 h l) (k : ∀ h', IC h0 h' (cI .null 0 (0, 0, 0, 0, 0, true)) → Q none h') : gC (gD (d + 3)) 257 [.ref 10, .null] h Q := by
  obtain ⟨v0, v1, v2, v3, v4, v5, v6, v7, rfl⟩ : ∃ v0 v1 v2 v3 v4 v5 v6 v7, l = [v0, v1, v2, v3, v4, v5, v6, v7] := by
    match l, hl with
    | [v0, v1, v2, v3, v4, v5, v6, v7], _ => exact ⟨v0, v1, v2, v3, v4, v5, v6, v7, rfl⟩
  refine gC.of (q := me_257.2) rfl (Nat.le_of_ble_eq_true rfl) rfl ?_
  iterate 2 refine gG.step (cd := cd_257) rfl (fun _ => rfl) ?_
  refine iPut hI rfl (Nat.le_of_ble_eq_true rfl) rfl rfl rfl (fun h hI => ?_)
  iterate 2 refine gG.step rfl (fun _ => rfl) ?_
  refine iPut hI rfl (Nat.le_of_ble_eq_true rfl) rfl rfl rfl (fun h hI => ?_)
  iterate 2 refine gG.step rfl (fun _ => rfl) ?_
  refine iPut hI rfl (Nat.le_of_ble_eq_true rfl) rfl rfl rfl (fun h hI => ?_)
  iterate 2 refine gG.step rfl (fun _ => rfl) ?_
  iterate 2 refine gG.step rfl (fun _ => rfl) ?_
  refine gG.goto (tgt := 29) rfl rfl ?_
  refine iPut hI rfl (Nat.le_of_ble_eq_true rfl) rfl rfl rfl (fun h hI => ?_)
  iterate 2 refine gG.step rfl (fun _ => rfl) ?_
  refine iPut hI rfl (Nat.le_of_ble_eq_true rfl) rfl rfl rfl (fun h hI => ?_)
  refine gG.step rfl (fun _ => rfl) ?_
  refine gG.vir rfl (hI.2) rfl rfl (Nat.le_of_ble_eq_true rfl) rfl rfl (Nat.le_of_ble_eq_true rfl) ?_
  refine c_259 (d + 1) hI (fun h hI => ?_)
  exact gG.done rfl (fun _ => rfl) (k h hI)
/-- isCountedData -/
theorem c_261 (d : Nat) {mp : Value} {ca : Int32} {z : iZ} (hI : IC h0 h (cI mp ca z)) {co : Nat} (hco : co ≤ 100) (hsd : z.2.2.2.2.1 ≤ 65535) (k : Q (some (.int (bI (decide (3 ≤ co ∧ co - 3 < z.2.2.2.2.1))))) h) : gC (gD (d + 1)) 261 [.ref 10, .int (nI co - 3)] h Q := by
  refine gC.of (q := me_261.2) rfl (Nat.le_of_ble_eq_true rfl) rfl ?_
  refine gG.step (cd := cd_261) rfl (fun _ => rfl) ?_
  by_cases h3 : 3 ≤ co
  · have e : nI co - 3 = nI (co - 3) := pk_sub (b := 3) h3
    rw [e]
    refine gG.ifc (tgt := 16) rfl rfl (fun c => absurd c (c_ltn (by omega))) (fun _ => ?_)
    iterate 2 refine gG.step rfl (fun _ => rfl) ?_
    refine gG.get rfl (hI.2) rfl ?_
    refine gG.icmp (tgt := 16) rfl rfl (fun c => ?_) (fun c => ?_)
    · have := (c_ge (by omega) (by omega)).mp c
      rw [decide_eq_false (by omega)] at k
      refine gG.step rfl (fun _ => rfl) ?_
      exact gG.done rfl (fun _ => rfl) (k)
    · have : co - 3 < z.2.2.2.2.1 := Nat.lt_of_not_le (fun y => c ((c_ge (by omega) (by omega)).mpr y))
      rw [decide_eq_true ⟨h3, this⟩] at k
      refine gG.step rfl (fun _ => rfl) ?_
      refine gG.goto (tgt := 17) rfl rfl ?_
      exact gG.done rfl (fun _ => rfl) (k)
  · rw [decide_eq_false (fun z => h3 z.1)] at k
    have : im_cmp .lt (nI co - 3) 0 = true := by
      have : ∀ c : Fin 3, im_cmp .lt (nI c.val - 3) 0 = true := by decide
      exact this ⟨co, by omega⟩
    refine gG.ifc (tgt := 16) rfl rfl (fun _ => ?_) (fun c => absurd this c)
    refine gG.step rfl (fun _ => rfl) ?_
    exact gG.done rfl (fun _ => rfl) (k)
/-- isGood -/
def iOk (t : Nat → Nat → Int32) (m f sd : Nat) (dg : Bool) : Bool := decide (sd ≤ nv (t 8 (fI m f 3)) ∧ (0 < sd ∨ t 8 (fI m f 8) &&& 1 = 0) ∧ (sd = 0 ∨ sd = nv (t 8 (fI m f 3)) ∨ t 8 (fI m f 8) &&& 2 = 0) ∧ (dg = true ∨ t 8 (fI m f 4) &&& 2 = 0))
theorem c_263 (d : Nat) {mp : Value} {ca : Int32} {z : iZ} (hI : IC h0 h (cI mp ca z)) {f o : Nat} {oc pi pl : Int32} {sh : Value} (hx : h[o]? = some (.inr (3, cF (gF t m f) oc pi sh pl))) (hF : FldI t m f) (hsd : z.2.2.2.2.1 ≤ 65535) (k : Q (some (.int (bI (iOk t m f z.2.2.2.2.1 z.2.2.2.2.2)))) h) : gC (gD (d + 2)) 263 [.ref 10, .ref o] h Q := by
  obtain ⟨go, ix, ti, co, sd, dg⟩ := z
  have hI : IC h0 h [mp, .int ca, .int go, .int (nI ix), .int (nI ti), .int (nI co), .int (nI sd), .int (bI dg)] := hI
  dsimp only at hsd k
  obtain ⟨l, hl, el⟩ := ps_ex (hF.1 3 (by decide))
  have hl : l ≤ 80 := hl
  have eg : gF t m f 3 = nI l := el
  unfold iOk at k
  rw [el, nv_nI (by omega)] at k
  refine gC.of (q := me_263.2) rfl (Nat.le_of_ble_eq_true rfl) rfl ?_
  refine gG.step (cd := cd_263) rfl (fun _ => rfl) ?_
  refine gG.get rfl (hI.2) rfl ?_
  refine gG.step rfl (fun _ => rfl) ?_
  refine gG.get rfl (hx) rfl ?_
  rw [eg]
  refine gG.icmp (tgt := 71) rfl rfl (fun c => ?_) (fun c => ?_)
  case refine_1 =>
    have := (c_gt (by omega) (by omega)).mp c
    rw [decide_eq_false (fun z => absurd z.1 (by omega))] at k
    refine gG.step rfl (fun _ => rfl) ?_
    exact gG.done rfl (fun _ => rfl) (k)
  case refine_2 =>
  have h1 : sd ≤ l := Nat.le_of_not_lt (fun y => c ((c_gt (by omega) (by omega)).mpr y))
  have no : ∀ (hn : ¬ (sd ≤ l ∧ (0 < sd ∨ t 8 (fI m f 8) &&& 1 = 0) ∧ (sd = 0 ∨ sd = l ∨ t 8 (fI m f 8) &&& 2 = 0) ∧ (dg = true ∨ t 8 (fI m f 4) &&& 2 = 0))), gG tb_T (gD (d + 1)) (some .boolean) cd_263 71 [some (.ref 10), some (.ref o)] [] h Q := by
    intro hn
    rw [decide_eq_false hn] at k
    refine gG.step rfl (fun _ => rfl) ?_
    exact gG.done rfl (fun _ => rfl) (k)
  have at52 : (0 < sd ∨ t 8 (fI m f 8) &&& 1 = 0) → (sd = 0 ∨ sd = l ∨ t 8 (fI m f 8) &&& 2 = 0) → gG tb_T (gD (d + 1)) (some .boolean) cd_263 52 [some (.ref 10), some (.ref o)] [] h Q := by
    intro h2 h3
    refine gG.step rfl (fun _ => rfl) ?_
    refine gG.get rfl (hI.2) rfl ?_
    cases dg with
    | true =>
      rw [decide_eq_true ⟨h1, h2, h3, Or.inl rfl⟩] at k
      refine gG.ifc (tgt := 67) rfl rfl (fun _ => ?_) (fun c => absurd (by decide) c)
      refine gG.step rfl (fun _ => rfl) ?_
      refine gG.goto (tgt := 72) rfl rfl ?_
      exact gG.done rfl (fun _ => rfl) (k)
    | false =>
      refine gG.ifc (tgt := 67) rfl rfl (fun c => absurd c (by decide)) (fun _ => ?_)
      iterate 2 refine gG.step rfl (fun _ => rfl) ?_
      refine gG.vir rfl (hx) rfl rfl (Nat.le_of_ble_eq_true rfl) rfl rfl (Nat.le_of_ble_eq_true rfl) ?_
      refine c_194 d 2 hx ?_
      show gG _ _ _ _ 64 _ [Value.int (bI (!decide (t 8 (fI m f 4) &&& 2 = 0)))] h Q
      by_cases h4 : t 8 (fI m f 4) &&& 2 = 0
      · rw [decide_eq_true ⟨h1, h2, h3, Or.inr h4⟩] at k
        rw [decide_eq_true h4]
        refine gG.ifc (tgt := 71) rfl rfl (fun c => absurd c (by decide)) (fun _ => ?_)
        refine gG.step rfl (fun _ => rfl) ?_
        refine gG.goto (tgt := 72) rfl rfl ?_
        exact gG.done rfl (fun _ => rfl) (k)
      · rw [decide_eq_false h4]
        refine gG.ifc (tgt := 71) rfl rfl (fun _ => ?_) (fun c => absurd (by decide) c)
        exact no (fun z => z.2.2.2.elim (fun y => by cases y) h4)
  have at26 : (0 < sd ∨ t 8 (fI m f 8) &&& 1 = 0) → gG tb_T (gD (d + 1)) (some .boolean) cd_263 26 [some (.ref 10), some (.ref o)] [] h Q := by
    intro h2
    refine gG.step rfl (fun _ => rfl) ?_
    refine gG.get rfl (hI.2) rfl ?_
    refine gG.ifc (tgt := 52) rfl rfl (fun c => ?_) (fun c => ?_)
    · have : sd = 0 := (c_eq (b := 0) (by omega) (by decide)).mp c
      exact at52 h2 (Or.inl this)
    · have hne : sd ≠ 0 := fun y => c ((c_eq (b := 0) (by omega) (by decide)).mpr y)
      refine gG.step rfl (fun _ => rfl) ?_
      refine gG.get rfl (hI.2) rfl ?_
      refine gG.step rfl (fun _ => rfl) ?_
      refine gG.get rfl (hx) rfl ?_
      rw [eg]
      refine gG.icmp (tgt := 52) rfl rfl (fun c => ?_) (fun c => ?_)
      · exact at52 h2 (Or.inr (Or.inl ((c_eq (by omega) (by omega)).mp c)))
      · have hne2 : sd ≠ l := fun y => c ((c_eq (by omega) (by omega)).mpr y)
        iterate 2 refine gG.step rfl (fun _ => rfl) ?_
        refine gG.vir rfl (hx) rfl rfl (Nat.le_of_ble_eq_true rfl) rfl rfl (Nat.le_of_ble_eq_true rfl) ?_
        refine c_195 d 2 hx ?_
        show gG _ _ _ _ 49 _ [Value.int (bI (!decide (t 8 (fI m f 8) &&& 2 = 0)))] h Q
        by_cases h4 : t 8 (fI m f 8) &&& 2 = 0
        · rw [decide_eq_true h4]
          refine gG.ifc (tgt := 71) rfl rfl (fun c => absurd c (by decide)) (fun _ => ?_)
          exact at52 h2 (Or.inr (Or.inr h4))
        · rw [decide_eq_false h4]
          refine gG.ifc (tgt := 71) rfl rfl (fun _ => ?_) (fun c => absurd (by decide) c)
          exact no (fun z => z.2.2.1.elim hne (fun y => y.elim hne2 h4))
  refine gG.step rfl (fun _ => rfl) ?_
  refine gG.get rfl (hI.2) rfl ?_
  refine gG.ifc (tgt := 26) rfl rfl (fun c => ?_) (fun c => ?_)
  · exact at26 (Or.inl ((c_gt (b := 0) (by omega) (by decide)).mp c))
  · have hz : sd = 0 := by
      have : ¬ 0 < sd := fun y => c ((c_gt (b := 0) (by omega) (by decide)).mpr y)
      omega
    iterate 2 refine gG.step rfl (fun _ => rfl) ?_
    refine gG.vir rfl (hx) rfl rfl (Nat.le_of_ble_eq_true rfl) rfl rfl (Nat.le_of_ble_eq_true rfl) ?_
    refine c_195 d 1 hx ?_
    show gG _ _ _ _ 23 _ [Value.int (bI (!decide (t 8 (fI m f 8) &&& 1 = 0)))] h Q
    by_cases h4 : t 8 (fI m f 8) &&& 1 = 0
    · rw [decide_eq_true h4]
      refine gG.ifc (tgt := 71) rfl rfl (fun c => absurd c (by decide)) (fun _ => ?_)
      exact at26 (Or.inr h4)
    · rw [decide_eq_false h4]
      refine gG.ifc (tgt := 71) rfl rfl (fun _ => ?_) (fun c => absurd (by decide) c)
      exact no (fun z => z.2.1.elim (by omega) h4)
end CINT2
