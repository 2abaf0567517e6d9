/-! THE CLASS: rows -/
section CROW
variable {T : im_T} {call : Nat → im_F} {ret : Option FieldType} {cd : List (Nat × im_X)} {pc : Nat} {L : im_L} {st : List Value} {h : im_H} {Q : Option Value → im_H → Prop}
/-- a call on an object -/
theorem gG.vir {idx y n o ci : Nat} {fs : List Value} {vs rest : List Value} (hf : im_f cd pc = some (.invokevirtual idx, y, n)) (hx : h[o]? = some (.inr (ci, fs))) (hy : y / 64 = ci) (hb : st[n - 1]? = some (.ref o)) (hn : n ≤ st.length) (hv : (st.take n).reverse = vs) (hr : st.drop n = rest) (hc : (rest.map fun v => v.category).sum ≤ 8)
    (k : gC call y vs h (fun r h' => gG T call ret cd (pc + 3) L (r.toList ++ rest) h' Q)) : gG T call ret cd pc L st h Q := by
  refine gG.inv hf (fun m => ?_) hn hv hr hc k
  show (if im_rcv (some (y / 64)) st[n - 1]? h = true then im_inv (call m) y n (pc + 3) L st h else none) = _
  rw [if_pos]
  rw [hb, hy]
  simp [im_rcv, hx]
/-- a jump that is sure -/
theorem gG.jmp {x : im_X} {off : Int} {tgt : Nat} {st' : List Value} (hf : im_f cd pc = some x) (hs : ∀ n, im_step T (call n) ret x pc L st h = im_jmp pc off L st' h) (ht : (pc : Int) + off = (tgt : Int)) (k : gG T call ret cd tgt L st' h Q) : gG T call ret cd pc L st h Q := by
  refine gG.step hf (fun n => ?_) k
  rw [hs n]
  unfold im_jmp
  rw [ht, if_pos (Int.natCast_nonneg tgt), Int.toNat_natCast]
  rfl
/-- an object out of an array -/
theorem gG.aal {o n ci : Nat} {f : Nat → Option Nat} {i : Int32} {j a2 v : Nat} (hf : im_f cd pc = some (.aaload, ci, a2)) (hx : h[o]? = some (.inl (3 + ci, n, .inr (.inr (.inr (.inr f)))))) (hv : f j = some v) (hi : i = nI j) (hj : j < n) (hn : n < 2 ^ 31) (kk : gG T call ret cd (pc + 1) L (.ref v :: st) h Q) : gG T call ret cd pc L (.int i :: .ref o :: st) h Q := by
  refine gG.aald hf hx hi hj hn ?_
  rw [hv]
  exact kk
theorem gG.tsw {dflt lo hi off : Int} {offs : Array Int} {a : Int32} {a1 a2 tgt : Nat} (hf : im_f cd pc = some (.tableswitch dflt lo hi offs, a1, a2)) (ho : im_tsw dflt lo hi offs a = some off) (ht : (pc : Int) + off = (tgt : Int)) (k : gG T call ret cd tgt L st h Q) : gG T call ret cd pc L (.int a :: st) h Q := by
  refine gG.step hf (fun n => ?_) k
  show (im_tsw dflt lo hi offs a).bind (fun off => im_jmp pc off L st h) = _
  rw [ho]
  show im_jmp pc off L st h = _
  unfold im_jmp
  rw [ht, if_pos (Int.natCast_nonneg tgt), Int.toNat_natCast]
  rfl
end CROW
/-! a field's cell -/
def cF (g : Nat → Int32) (oc pi : Int32) (sh : Value) (pl : Int32) : List Value := [.int (g 0), .int (g 1), .int (g 2), .int (g 3), .int (g 4), .int oc, .int (g 5), .int ((g 3 + 1) * g 5), .int (g 6), .int pi, .int (g 7), .int (g 10), .int (g 11), .int (g 8), .int (g 9), sh, .int pl]
theorem c_466 (d : Nat) (v lo hi : Int32) (h : im_H) (Q : Option Value → im_H → Prop) (k : Q (some (.int (bI (decide (lo ≤ v ∧ v ≤ hi))))) h) : gC (gD (d + 1)) 466 [.int v, .int lo, .int hi] h Q := by
  refine gC.of (q := me_466.2) rfl (Nat.le_of_ble_eq_true rfl) rfl ?_
  iterate 2 refine gG.step (cd := cd_466) rfl (fun _ => rfl) ?_
  refine gG.icmp (tgt := 14) rfl rfl (fun c => ?_) (fun c => ?_)
  · have hc : ¬ (lo ≤ v ∧ v ≤ hi) := fun z => Int32.not_lt.mpr z.1 (of_decide_eq_true c)
    rw [decide_eq_false hc] at k
    refine gG.step rfl (fun _ => rfl) ?_
    exact gG.done rfl (fun _ => rfl) (k)
  · have h1 : lo ≤ v := Int32.not_lt.mp (fun z => c (decide_eq_true z))
    iterate 2 refine gG.step rfl (fun _ => rfl) ?_
    refine gG.icmp (tgt := 14) rfl rfl (fun c => ?_) (fun c => ?_)
    · have hc : ¬ (lo ≤ v ∧ v ≤ hi) := fun z => Int32.not_lt.mpr z.2 (of_decide_eq_true c)
      rw [decide_eq_false hc] at k
      refine gG.step rfl (fun _ => rfl) ?_
      exact gG.done rfl (fun _ => rfl) (k)
    · have h2 : v ≤ hi := Int32.not_lt.mp (fun z => c (decide_eq_true z))
      rw [decide_eq_true (show lo ≤ v ∧ v ≤ hi from ⟨h1, h2⟩)] at k
      refine gG.step rfl (fun _ => rfl) ?_
      refine gG.goto (tgt := 15) rfl rfl ?_
      exact gG.done rfl (fun _ => rfl) (k)
theorem c_467 (d : Nat) (v : Int32) (h : im_H) (Q : Option Value → im_H → Prop) (k : Q (some (.int (bI (decide (48 ≤ v ∧ v ≤ 57))))) h) : gC (gD (d + 2)) 467 [.int v] h Q := by
  refine gC.of (q := me_467.2) rfl (Nat.le_of_ble_eq_true rfl) rfl ?_
  iterate 3 refine gG.step (cd := cd_467) rfl (fun _ => rfl) ?_
  refine gG.inv rfl (fun _ => rfl) (Nat.le_of_ble_eq_true rfl) rfl rfl (Nat.le_of_ble_eq_true rfl) ?_
  refine c_466 d _ _ _ _ _ ?_
  show gG _ _ _ _ 8 _ [Value.int (bI (decide (48 ≤ v ∧ v ≤ 57)))] h Q
  generalize decide (48 ≤ v ∧ v ≤ 57) = z at k ⊢
  cases z
  · exact gG.done rfl (fun _ => rfl) (k)
  · exact gG.done rfl (fun _ => rfl) (k)
section CFLD
variable {h : im_H} {o o2 : Nat} {g g2 : Nat → Int32} {oc pi pl oc2 pi2 pl2 : Int32} {sh sh2 : Value} {Q : Option Value → im_H → Prop}
theorem c_193 (d : Nat) (hx : h[o]? = some (.inr (3, cF g oc pi sh pl))) (k : Q (some (.int (bI (decide (g 0 = 0))))) h) : gC (gD (d + 1)) 193 [.ref o] h Q := by
  refine gC.of (q := me_193.2) rfl (Nat.le_of_ble_eq_true rfl) rfl ?_
  refine gG.step (cd := cd_193) rfl (fun _ => rfl) ?_
  refine gG.get rfl (hx) rfl ?_
  refine gG.ifc (tgt := 11) rfl rfl (fun c => ?_) (fun c => ?_)
  · rw [decide_eq_false (c_ne.mp c)] at k
    refine gG.step rfl (fun _ => rfl) ?_
    exact gG.done rfl (fun _ => rfl) (k)
  · rw [decide_eq_true (Decidable.not_not.mp (fun z => c (c_ne.mpr z)))] at k
    refine gG.step rfl (fun _ => rfl) ?_
    refine gG.goto (tgt := 12) rfl rfl ?_
    exact gG.done rfl (fun _ => rfl) (k)
theorem c_194 (d : Nat) (a : Int32) (hx : h[o]? = some (.inr (3, cF g oc pi sh pl))) (k : Q (some (.int (bI (!decide (g 4 &&& a = 0))))) h) : gC (gD (d + 1)) 194 [.ref o, .int a] h Q := by
  refine gC.of (q := me_194.2) rfl (Nat.le_of_ble_eq_true rfl) rfl ?_
  refine gG.step (cd := cd_194) rfl (fun _ => rfl) ?_
  refine gG.get rfl (hx) rfl ?_
  iterate 2 refine gG.step rfl (fun _ => rfl) ?_
  refine gG.ifc (tgt := 13) rfl rfl (fun c => ?_) (fun c => ?_)
  · rw [decide_eq_true (show g 4 &&& a = 0 from c_ee.mp c)] at k
    refine gG.step rfl (fun _ => rfl) ?_
    exact gG.done rfl (fun _ => rfl) (k)
  · rw [decide_eq_false (show ¬ g 4 &&& a = 0 from fun z => c (c_ee.mpr z))] at k
    refine gG.step rfl (fun _ => rfl) ?_
    refine gG.goto (tgt := 14) rfl rfl ?_
    exact gG.done rfl (fun _ => rfl) (k)
theorem c_195 (d : Nat) (a : Int32) (hx : h[o]? = some (.inr (3, cF g oc pi sh pl))) (k : Q (some (.int (bI (!decide (g 8 &&& a = 0))))) h) : gC (gD (d + 1)) 195 [.ref o, .int a] h Q := by
  refine gC.of (q := me_195.2) rfl (Nat.le_of_ble_eq_true rfl) rfl ?_
  refine gG.step (cd := cd_195) rfl (fun _ => rfl) ?_
  refine gG.get rfl (hx) rfl ?_
  iterate 2 refine gG.step rfl (fun _ => rfl) ?_
  refine gG.ifc (tgt := 13) rfl rfl (fun c => ?_) (fun c => ?_)
  · rw [decide_eq_true (show g 8 &&& a = 0 from c_ee.mp c)] at k
    refine gG.step rfl (fun _ => rfl) ?_
    exact gG.done rfl (fun _ => rfl) (k)
  · rw [decide_eq_false (show ¬ g 8 &&& a = 0 from fun z => c (c_ee.mpr z))] at k
    refine gG.step rfl (fun _ => rfl) ?_
    refine gG.goto (tgt := 14) rfl rfl ?_
    exact gG.done rfl (fun _ => rfl) (k)
theorem c_196 (d : Nat) (hx : h[o]? = some (.inr (3, cF g oc pi sh pl))) (k : Q (some (.int (3 + g 3))) h) : gC (gD (d + 1)) 196 [.ref o] h Q := by
  refine gC.of (q := me_196.2) rfl (Nat.le_of_ble_eq_true rfl) rfl ?_
  iterate 2 refine gG.step (cd := cd_196) rfl (fun _ => rfl) ?_
  refine gG.get rfl (hx) rfl ?_
  refine gG.step rfl (fun _ => rfl) ?_
  exact gG.done rfl (fun _ => rfl) (k)
theorem c_197 (d : Nat) (hx : h[o]? = some (.inr (3, cF g oc pi sh pl))) (k : Q (some (.int ((3 + g 3) * g 5))) h) : gC (gD (d + 2)) 197 [.ref o] h Q := by
  refine gC.of (q := me_197.2) rfl (Nat.le_of_ble_eq_true rfl) rfl ?_
  refine gG.step (cd := cd_197) rfl (fun _ => rfl) ?_
  refine gG.vir rfl (hx) rfl rfl (Nat.le_of_ble_eq_true rfl) rfl rfl (Nat.le_of_ble_eq_true rfl) ?_
  refine c_196 d hx ?_
  refine gG.step rfl (fun _ => rfl) ?_
  refine gG.get rfl (hx) rfl ?_
  refine gG.step rfl (fun _ => rfl) ?_
  exact gG.done rfl (fun _ => rfl) (k)
/-- does it stand over -/
def cOv (g : Nat → Int32) (row col wd : Int32) : Bool := decide (g 1 = row ∧ g 2 < col + wd ∧ col < g 2 + (g 3 + 1) * g 5)
theorem c_198 (d : Nat) (row col wd : Int32) (hx : h[o]? = some (.inr (3, cF g oc pi sh pl))) (k : Q (some (.int (bI (cOv g row col wd)))) h) : gC (gD (d + 1)) 198 [.ref o, .int row, .int col, .int wd] h Q := by
  refine gC.of (q := me_198.2) rfl (Nat.le_of_ble_eq_true rfl) rfl ?_
  refine gG.step (cd := cd_198) rfl (fun _ => rfl) ?_
  refine gG.get rfl (hx) rfl ?_
  refine gG.step rfl (fun _ => rfl) ?_
  unfold cOv at k
  refine gG.icmp (tgt := 35) rfl rfl (fun c => ?_) (fun c => ?_)
  · rw [decide_eq_false (fun z => c_ne.mp c z.1)] at k
    refine gG.step rfl (fun _ => rfl) ?_
    exact gG.done rfl (fun _ => rfl) (k)
  · have h1 : g 1 = row := Decidable.not_not.mp (fun z => c (c_ne.mpr z))
    refine gG.step rfl (fun _ => rfl) ?_
    refine gG.get rfl (hx) rfl ?_
    iterate 3 refine gG.step rfl (fun _ => rfl) ?_
    refine gG.icmp (tgt := 35) rfl rfl (fun c => ?_) (fun c => ?_)
    · rw [decide_eq_false (fun z => Int32.not_lt.mpr (show col + wd ≤ g 2 from of_decide_eq_true c) z.2.1)] at k
      refine gG.step rfl (fun _ => rfl) ?_
      exact gG.done rfl (fun _ => rfl) (k)
    · have h2 : g 2 < col + wd := Int32.not_le.mp (fun z => c (decide_eq_true z))
      iterate 2 refine gG.step rfl (fun _ => rfl) ?_
      refine gG.get rfl (hx) rfl ?_
      refine gG.step rfl (fun _ => rfl) ?_
      refine gG.get rfl (hx) rfl ?_
      refine gG.step rfl (fun _ => rfl) ?_
      refine gG.icmp (tgt := 35) rfl rfl (fun c => ?_) (fun c => ?_)
      · rw [decide_eq_false (fun z => Int32.not_lt.mpr (show g 2 + (g 3 + 1) * g 5 ≤ col from of_decide_eq_true c) z.2.2)] at k
        refine gG.step rfl (fun _ => rfl) ?_
        exact gG.done rfl (fun _ => rfl) (k)
      · rw [decide_eq_true (show _ ∧ _ ∧ _ from ⟨h1, h2, Int32.not_le.mp (fun z => c (decide_eq_true z))⟩)] at k
        refine gG.step rfl (fun _ => rfl) ?_
        refine gG.goto (tgt := 36) rfl rfl ?_
        exact gG.done rfl (fun _ => rfl) (k)
theorem c_199 (d : Nat) (hx : h[o]? = some (.inr (3, cF g oc pi sh pl))) (hx2 : h[o2]? = some (.inr (3, cF g2 oc2 pi2 sh2 pl2))) (k : Q (some (.int (bI (decide (g 1 = g2 1 ∧ g 2 + (g 3 + 1) * g 5 = g2 2))))) h) : gC (gD (d + 1)) 199 [.ref o, .ref o2] h Q := by
  refine gC.of (q := me_199.2) rfl (Nat.le_of_ble_eq_true rfl) rfl ?_
  refine gG.step (cd := cd_199) rfl (fun _ => rfl) ?_
  refine gG.get rfl (hx) rfl ?_
  refine gG.step rfl (fun _ => rfl) ?_
  refine gG.get rfl (hx2) rfl ?_
  refine gG.icmp (tgt := 31) rfl rfl (fun c => ?_) (fun c => ?_)
  · rw [decide_eq_false (fun z => c_ne.mp c z.1)] at k
    refine gG.step rfl (fun _ => rfl) ?_
    exact gG.done rfl (fun _ => rfl) (k)
  · have h1 : g 1 = g2 1 := Decidable.not_not.mp (fun z => c (c_ne.mpr z))
    refine gG.step rfl (fun _ => rfl) ?_
    refine gG.get rfl (hx) rfl ?_
    refine gG.step rfl (fun _ => rfl) ?_
    refine gG.get rfl (hx) rfl ?_
    iterate 2 refine gG.step rfl (fun _ => rfl) ?_
    refine gG.get rfl (hx2) rfl ?_
    refine gG.icmp (tgt := 31) rfl rfl (fun c => ?_) (fun c => ?_)
    · rw [decide_eq_false (fun z => c_ne.mp c z.2)] at k
      refine gG.step rfl (fun _ => rfl) ?_
      exact gG.done rfl (fun _ => rfl) (k)
    · rw [decide_eq_true (show _ ∧ _ from ⟨h1, Decidable.not_not.mp (fun z => c (c_ne.mpr z))⟩)] at k
      refine gG.step rfl (fun _ => rfl) ?_
      refine gG.goto (tgt := 32) rfl rfl ?_
      exact gG.done rfl (fun _ => rfl) (k)
theorem c_200 (d : Nat) (hx : h[o]? = some (.inr (3, cF g oc pi sh pl))) (hx2 : h[o2]? = some (.inr (3, cF g2 oc2 pi2 sh2 pl2))) (k : Q (some (.int (bI (decide (g 3 = g2 3 ∧ g 5 = g2 5 ∧ pl = pl2))))) h) : gC (gD (d + 1)) 200 [.ref o, .ref o2] h Q := by
  refine gC.of (q := me_200.2) rfl (Nat.le_of_ble_eq_true rfl) rfl ?_
  refine gG.step (cd := cd_200) rfl (fun _ => rfl) ?_
  refine gG.get rfl (hx) rfl ?_
  refine gG.step rfl (fun _ => rfl) ?_
  refine gG.get rfl (hx2) rfl ?_
  refine gG.icmp (tgt := 37) rfl rfl (fun c => ?_) (fun c => ?_)
  · rw [decide_eq_false (fun z => c_ne.mp c z.1)] at k
    refine gG.step rfl (fun _ => rfl) ?_
    exact gG.done rfl (fun _ => rfl) (k)
  · have h1 : g 3 = g2 3 := Decidable.not_not.mp (fun z => c (c_ne.mpr z))
    refine gG.step rfl (fun _ => rfl) ?_
    refine gG.get rfl (hx) rfl ?_
    refine gG.step rfl (fun _ => rfl) ?_
    refine gG.get rfl (hx2) rfl ?_
    refine gG.icmp (tgt := 37) rfl rfl (fun c => ?_) (fun c => ?_)
    · rw [decide_eq_false (fun z => c_ne.mp c z.2.1)] at k
      refine gG.step rfl (fun _ => rfl) ?_
      exact gG.done rfl (fun _ => rfl) (k)
    · have h2 : g 5 = g2 5 := Decidable.not_not.mp (fun z => c (c_ne.mpr z))
      refine gG.step rfl (fun _ => rfl) ?_
      refine gG.get rfl (hx) rfl ?_
      refine gG.step rfl (fun _ => rfl) ?_
      refine gG.get rfl (hx2) rfl ?_
      refine gG.icmp (tgt := 37) rfl rfl (fun c => ?_) (fun c => ?_)
      · rw [decide_eq_false (fun z => c_ne.mp c z.2.2)] at k
        refine gG.step rfl (fun _ => rfl) ?_
        exact gG.done rfl (fun _ => rfl) (k)
      · rw [decide_eq_true (show _ ∧ _ ∧ _ from ⟨h1, h2, Decidable.not_not.mp (fun z => c (c_ne.mpr z))⟩)] at k
        refine gG.step rfl (fun _ => rfl) ?_
        refine gG.goto (tgt := 38) rfl rfl ?_
        exact gG.done rfl (fun _ => rfl) (k)
end CFLD
