/-- fieldsNotAsIn: this field there -/
def cLk (t : Nat → Nat → Int32) (m f : Nat) (o : Option Nat) (pl : Nat → Nat → Int32) : Bool := match o with
  | none => false
  | some m2 => match cNm t m2 (t 8 (fI m f 0)) with
    | none => false
    | some g => decide (t 8 (fI m f 3) = t 8 (fI m2 g 3) ∧ t 8 (fI m f 5) = t 8 (fI m2 g 5) ∧ pl m f = pl m2 g)
def cNa (t : Nat → Nat → Int32) (m : Nat) (o : Option Nat) (pl : Nat → Nat → Int32) : Nat → Int32
  | 0 => 0
  | f + 1 => if ¬ t 8 (fI m f 0) = 0 ∧ ¬ cLk t m f o pl = true then cNa t m o pl f + 1 else cNa t m o pl f
section CMAP2
variable {A : Bk} {h : im_H} {t : Nat → Nat → Int32} {m : Nat} {lb : Nat → Int32} {pl : Nat → Nat → Int32} {P : Nat → Nat → Int32 → Int32 → Prop} {tx : Nat → Int32} {Q : Option Value → im_H → Prop}
theorem cNm_lt {t : Nat → Nat → Int32} {m f : Nat} {name : Int32} (h : cNm t m name = some f) : f < nv (t 7 m) ∧ t 8 (fI m f 0) = name ∧ ¬ name = 0 := by
  unfold cNm at h
  split at h
  · cases h
  · rename_i h0
    obtain ⟨-, h2, h3⟩ := sr_some h
    exact ⟨by omega, of_decide_eq_true h3, h0⟩
theorem c_390 (d : Nat) (hm : CMp A h t m (lb m) (pl m) (P m) tx) (h7 : ps (t 7 m) 30) {o : Option Nat} (ho2 : ∀ m2, o = some m2 → CMp A h t m2 (lb m2) (pl m2) (P m2) tx ∧ ps (t 7 m2) 30) (k : Q (some (.int (cNa t m o pl (nv (t 7 m))))) h) : gC (gD (d + 2)) 390 [.ref (A.2.1 m), va_rf (o.map A.2.1)] h Q := by
  have ho := hm.2.1
  obtain ⟨ga, hga, hgf⟩ := hm.2.2.1
  obtain ⟨n, hn, e7⟩ := ps_ex h7
  have e7n : nv (t 7 m) = n := by rw [e7, nv_nI (by omega)]
  rw [e7n] at k hgf
  refine gC.of (q := me_390.2) rfl (by cases o <;> exact Nat.le_of_ble_eq_true rfl) (L := [some (.ref (A.2.1 m)), some (va_rf (o.map A.2.1)), none, none, none, none]) (by cases o <;> rfl) ?_
  refine gG.step (cd := cd_390) rfl (fun _ => rfl) ?_
  refine gG.step (L' := [some (.ref (A.2.1 m)), some (va_rf (o.map A.2.1)), some (.int (cNa t m o pl 0)), none, none, none]) (st' := []) rfl (fun _ => by cases o <;> rfl) ?_
  refine gG.step rfl (fun _ => rfl) ?_
  refine gG.step (L' := [some (.ref (A.2.1 m)), some (va_rf (o.map A.2.1)), some (.int (cNa t m o pl 0)), some (.int (nI 0)), none, none]) rfl (fun _ => rfl) ?_
  have key : ∀ (r i : Nat) (x4 x5 : Option Value), i + r = n → gG tb_T (gD (d + 1)) (some .int) cd_390 4 [some (.ref (A.2.1 m)), some (va_rf (o.map A.2.1)), some (.int (cNa t m o pl i)), some (.int (nI i)), x4, x5] [] h Q := by
    intro r
    induction r with
    | zero =>
      intro i x4 x5 hi
      have hi : i = n := by omega
      subst hi
      iterate 2 refine gG.step rfl (fun _ => rfl) ?_
      refine gG.get rfl (ho) rfl ?_
      rw [e7]
      refine gG.icmp (tgt := 71) rfl rfl (fun _ => ?_) (fun c => absurd ((c_ge (by omega) (by omega)).mpr (by omega)) c)
      refine gG.step rfl (fun _ => rfl) ?_
      exact gG.done rfl (fun _ => rfl) (k)
    | succ r ih =>
      intro i x4 x5 hi
      obtain ⟨oc, pi, sh, -, hx, -⟩ := hm.fld (f := i) (by omega)
      have ih1 : ∀ y4 y5, gG tb_T (gD (d + 1)) (some .int) cd_390 4 [some (.ref (A.2.1 m)), some (va_rf (o.map A.2.1)), some (.int (cNa t m o pl (i + 1))), some (.int (nI i + 1)), y4, y5] [] h Q := by
        intro y4 y5
        have := ih (i + 1) y4 y5 (by omega)
        rw [← nI_1 i] at this
        exact this
      iterate 2 refine gG.step rfl (fun _ => rfl) ?_
      refine gG.get rfl (ho) rfl ?_
      rw [e7]
      refine gG.icmp (tgt := 71) rfl rfl (fun c => absurd c (fun z => absurd ((c_ge (by omega) (by omega)).mp z) (by omega))) (fun _ => ?_)
      refine gG.step rfl (fun _ => rfl) ?_
      refine gG.get rfl (ho) rfl ?_
      refine gG.step rfl (fun _ => rfl) ?_
      refine gG.aal (j := i) rfl hga (hgf i (by omega)) rfl (show i < 30 by omega) (by decide) ?_
      refine gG.step (L' := [some (.ref (A.2.1 m)), some (va_rf (o.map A.2.1)), some (.int (cNa t m o pl i)), some (.int (nI i)), some (.ref (A.2.2 m i)), x5]) rfl (fun _ => rfl) ?_
      -- behind the look up
      have tail : ∀ its : Option (Nat × Nat), (∀ m2 g, its = some (m2, g) → o = some m2 ∧ cNm t m2 (t 8 (fI m i 0)) = some g) → (its = none → cLk t m i o pl = false) → gG tb_T (gD (d + 1)) (some .int) cd_390 37 [some (.ref (A.2.1 m)), some (va_rf (o.map A.2.1)), some (.int (cNa t m o pl i)), some (.int (nI i)), some (.ref (A.2.2 m i)), x5] [va_rf (its.map fun z => A.2.2 z.1 z.2)] h Q := by
        intro its hi1 hi2
        refine gG.step (L' := [some (.ref (A.2.1 m)), some (va_rf (o.map A.2.1)), some (.int (cNa t m o pl i)), some (.int (nI i)), some (.ref (A.2.2 m i)), some (va_rf (its.map fun z => A.2.2 z.1 z.2))]) (st' := []) rfl (fun _ => by cases its <;> rfl) ?_
        refine gG.step rfl (fun _ => rfl) ?_
        refine gG.vir rfl (hx) rfl rfl (Nat.le_of_ble_eq_true rfl) rfl rfl (Nat.le_of_ble_eq_true rfl) ?_
        refine c_193 d hx ?_
        show gG _ _ _ _ 44 _ [Value.int (bI (decide (t 8 (fI m i 0) = 0)))] h Q
        rw [cNa] at ih1
        by_cases hz : t 8 (fI m i 0) = 0
        · rw [decide_eq_true hz]
          rw [if_neg (fun z => z.1 hz)] at ih1
          refine gG.ifc (tgt := 65) rfl rfl (fun _ => ?_) (fun c => absurd (by decide) c)
          refine gG.step rfl (fun _ => rfl) ?_
          refine gG.goto (tgt := 4) rfl rfl ?_
          exact ih1 _ _
        · rw [decide_eq_false hz]
          refine gG.ifc (tgt := 65) rfl rfl (fun c => absurd c (by decide)) (fun _ => ?_)
          cases its with
          | none =>
            rw [if_pos ⟨hz, by rw [hi2 rfl]; decide⟩] at ih1
            refine gG.step rfl (fun _ => rfl) ?_
            refine gG.jmp (tgt := 62) rfl (fun _ => rfl) rfl ?_
            refine gG.step (L' := [some (.ref (A.2.1 m)), some (va_rf (o.map A.2.1)), some (.int (cNa t m o pl i + 1)), some (.int (nI i)), some (.ref (A.2.2 m i)), some .null]) (st' := []) rfl (fun _ => by cases o <;> rfl) ?_
            refine gG.step rfl (fun _ => rfl) ?_
            refine gG.goto (tgt := 4) rfl rfl ?_
            exact ih1 _ _
          | some z =>
            obtain ⟨m2, g⟩ := z
            obtain ⟨ho3, hg⟩ := hi1 m2 g rfl
            obtain ⟨hm2, h72⟩ := ho2 m2 ho3
            obtain ⟨hg1, hg2, hg3⟩ := cNm_lt hg
            obtain ⟨oc2, pi2, sh2, -, hx2, -⟩ := hm2.fld hg1
            have hl : cLk t m i o pl = decide (t 8 (fI m i 3) = t 8 (fI m2 g 3) ∧ t 8 (fI m i 5) = t 8 (fI m2 g 5) ∧ pl m i = pl m2 g) := by
              unfold cLk
              rw [ho3]
              dsimp only
              rw [hg]
            iterate 4 refine gG.step rfl (fun _ => rfl) ?_
            refine gG.vir rfl (hx) rfl rfl (Nat.le_of_ble_eq_true rfl) rfl rfl (Nat.le_of_ble_eq_true rfl) ?_
            refine c_200 d hx hx2 ?_
            show gG _ _ _ _ 59 _ [Value.int (bI (decide (t 8 (fI m i 3) = t 8 (fI m2 g 3) ∧ t 8 (fI m i 5) = t 8 (fI m2 g 5) ∧ pl m i = pl m2 g)))] h Q
            rw [← hl]
            cases hb : cLk t m i o pl with
            | true =>
              rw [hb, if_neg (fun z => z.2 rfl)] at ih1
              refine gG.ifc (tgt := 65) rfl rfl (fun _ => ?_) (fun c => absurd (by decide) c)
              refine gG.step rfl (fun _ => rfl) ?_
              refine gG.goto (tgt := 4) rfl rfl ?_
              exact ih1 _ _
            | false =>
              rw [hb, if_pos ⟨hz, by decide⟩] at ih1
              refine gG.ifc (tgt := 65) rfl rfl (fun c => absurd c (by decide)) (fun _ => ?_)
              refine gG.step (L' := [some (.ref (A.2.1 m)), some (va_rf (o.map A.2.1)), some (.int (cNa t m o pl i + 1)), some (.int (nI i)), some (.ref (A.2.2 m i)), some (.ref (A.2.2 m2 g))]) (st' := []) rfl (fun _ => by cases o <;> rfl) ?_
              refine gG.step rfl (fun _ => rfl) ?_
              refine gG.goto (tgt := 4) rfl rfl ?_
              exact ih1 _ _
      cases o with
      | none =>
        iterate 2 refine gG.step rfl (fun _ => rfl) ?_
        refine gG.step rfl (fun _ => rfl) ?_
        refine gG.goto (tgt := 37) rfl rfl ?_
        exact tail none (fun _ _ z => by cases z) (fun _ => rfl)
      | some m2 =>
        obtain ⟨hm2, h72⟩ := ho2 m2 rfl
        refine gG.step rfl (fun _ => rfl) ?_
        refine gG.jmp (tgt := 28) rfl (fun _ => rfl) rfl ?_
        iterate 2 refine gG.step rfl (fun _ => rfl) ?_
        refine gG.get rfl (hx) rfl ?_
        refine gG.vir rfl (hm2.2.1) rfl rfl (Nat.le_of_ble_eq_true rfl) rfl rfl (Nat.le_of_ble_eq_true rfl) ?_
        refine c_385 d hm2 h72 _ ?_
        cases hc : cNm t m2 (gF t m i 0) with
        | none => exact tail none (fun _ _ z => by cases z) (fun _ => by unfold cLk; dsimp only; rw [show cNm t m2 (t 8 (fI m i 0)) = none from hc])
        | some g => exact tail (some (m2, g)) (fun a b z => by cases z; exact ⟨rfl, hc⟩) (fun z => by cases z)
  exact key n 0 none none (by omega)
/-- shownAt -/
def cSa (g : Nat → Int32) (tx : Nat → Int32) (col : Int32) : Int32 :=
  if g 13 = 0 ∨ ¬ g 4 &&& 8 = 0 ∨ col < g 2 then 32 else
  let k := (col - g 2) - (col - g 2) / (g 3 + 1) * (g 3 + 1) - 1
  if 0 ≤ k ∧ k < g 13 then tx (nv (g 12) + nv k) else 32
end CMAP2
