/-! THE CLASS'S STATE, told by the reference's -/
def plS (t : Nat → Nat → Int32) (m f : Nat) : Int32 := if t 8 (fI m f 0) = 0 then -1 else mBT t m f
def lbS (t : Nat → Nat → Int32) (m : Nat) : Int32 := mBT t m (nv (t 7 m))
def PT : Nat → Nat → Int32 → Int32 → Prop := fun _ _ _ _ => True
def CE (A : Bk) (h : im_H) (t : Nat → Nat → Int32) (e : Nat) : Prop := 25 ≤ A.1 e ∧ CEd A h t e (lbS t) (plS t) PT (t 2) ∧ ∀ k, k < nv (t 3 e) → ∀ f, f < nv (t 7 (8 * e + k)) → nv (t 8 (fI (8 * e + k) f 12)) + nv (t 8 (fI (8 * e + k) f 13)) ≤ 3000 * (e + 1)
/-- what came in: good, index, time, of the time, said, digits alone -/
abbrev iZ : Type := Int32 × Nat × Nat × Nat × Nat × Bool
def iEnd (t : Nat → Nat → Int32) (m : Nat) (z : iZ) : iZ :=
  let f := z.2.1
  let l := nv (t 8 (fI m f 3))
  let sd := z.2.2.2.2.1
  let ok := decide (sd ≤ l ∧ (0 < sd ∨ t 8 (fI m f 8) &&& 1 = 0) ∧ (sd = 0 ∨ sd = l ∨ t 8 (fI m f 8) &&& 2 = 0) ∧ (z.2.2.2.2.2 = true ∨ t 8 (fI m f 4) &&& 2 = 0))
  ((if ok = true then z.1 + 1 else z.1), (if z.2.2.1 + 1 = nv (t 8 (fI m f 5)) then cFn t m (f + 1) else f), (if z.2.2.1 + 1 = nv (t 8 (fI m f 5)) then 0 else z.2.2.1 + 1), 0, 0, true)
def iNx (t : Nat → Nat → Int32) (m : Nat) (x : Nat) (z : iZ) : iZ :=
  let f := z.2.1
  let co := z.2.2.2.1
  let sd := z.2.2.2.2.1
  let dg := z.2.2.2.2.2
  let z' : iZ := (z.1, f, z.2.2.1, co + 1, (if co < 2 then sd * 256 + x else sd), (if co < 2 then dg else if 3 ≤ co ∧ co - 3 < sd ∧ ¬ (48 ≤ x ∧ x ≤ 57) then false else dg))
  if co + 1 = 3 + nv (t 8 (fI m f 3)) then iEnd t m z' else z'
/-- after c bytes -/
def iS (t : Nat → Nat → Int32) (m : Nat) : Nat → iZ
  | 0 => (0, cFn t m 0, 0, 0, 0, true)
  | c + 1 => if 12 < c + 1 ∧ (iS t m c).2.1 < nv (t 7 m) then iNx t m (nv (t 11 c)) (iS t m c) else iS t m c
def cI (mp : Value) (ca : Int32) (z : iZ) : List Value := [mp, .int ca, .int z.1, .int (nI z.2.1), .int (nI z.2.2.1), .int (nI z.2.2.2.1), .int (nI z.2.2.2.2.1), .int (bI z.2.2.2.2.2)]
def IR (A : Bk) (h : im_H) (s : Nat → Int32) (t : Nat → Nat → Int32) : Prop := (∃ z, h[10]? = some (.inr (4, cI .null 0 z)) ∧ s 23 = 0) ∨ (∃ m, h[10]? = some (.inr (4, cI (.ref (A.2.1 m)) (s 23) (iS t m (nv (s 23))))) ∧ s 25 = s 10 ∧ mHandO s t (s 24) = some m ∧ nv (s 23) < bTn t m (nv (t 7 m)))
def cT (A : Bk) (s : Nat → Int32) : List Value := [.ref 1, .int (s 2), .ref 2, .int (s 10), .ref (if s 10 = 0 then 3 else A.1 (nv (s 10) - 1)), .ref 5, .int (s 11), .int (s 12), .ref 8, .ref 10]
def CL (h : im_H) : Prop := (∃ b1 b2 w c f q, h[6]? = some (.inr (5, [.ref 7, .int b1, .int b2, .int w, .int c, .int f, .int q]))) ∧ ∃ g, h[7]? = some (.inl (0, 5, .inl g))
def CX (h : im_H) (s : Nat → Int32) (t : Nat → Nat → Int32) : Prop := h[8]? = some (.inr (1, [.ref 9, .int (s 21)])) ∧ ∃ g, h[9]? = some (.inl (1, 80, .inl g)) ∧ ∀ j, j < nv (s 21) → g j = (t 10 j).toInt8.toInt32
def CD (V : Prop) (h : im_H) (s : Nat → Int32) : Prop := ∃ ed mp lt o1 o2, h[5]? = some (.inr (0, [.ref 6, ed, mp, lt, .int o1, .int o2])) ∧ (V → o1 = s 13 ∧ o2 = s 14)
def CS (V : Prop) (A : Bk) (h : im_H) (s : Nat → Int32) (t : Nat → Nat → Int32) : Prop :=
  h[0]? = some (.inr (7, cT A s)) ∧ h[1]? = some (.inl (1, 3000, .inl (t 1))) ∧ (∃ g, h[2]? = some (.inl (5, 6, .inr (.inr (.inr (.inr g))))) ∧ ∀ e, e < nv (s 10) → g e = some (A.1 e)) ∧ h[3]? = some (.inr (2, [.ref 4, .int 0])) ∧
  CD V h s ∧ CL h ∧ CX h s t ∧ IR A h s t ∧ ∀ e, e < nv (s 10) → CE A h t e
section CQ
variable {V : Prop} {A : Bk} {h : im_H} {s : Nat → Int32} {t : Nat → Nat → Int32} {Q : Option Value → im_H → Prop}
def hd (A : Bk) (s : Nat → Int32) : Nat := if s 10 = 0 then 3 else A.1 (nv (s 10) - 1)
/-- the edition at hand -/
theorem CS.hnd (hS : CS V A h s t) (hI : MI s t) : ∃ x, h[hd A s]? = some (.inr (2, [x, .int (if s 10 = 0 then 0 else t 3 (nv (s 10) - 1))])) := by
  unfold hd
  by_cases h0 : s 10 = 0
  · rw [if_pos h0, if_pos h0]
    exact ⟨_, hS.2.2.2.1⟩
  · rw [if_neg h0, if_neg h0]
    have hp := nv_pos hI.1 h0
    exact ⟨_, (hS.2.2.2.2.2.2.2.2 (nv (s 10) - 1) (by omega)).2.1.1⟩
theorem c_hand (d : Nat) (hS : CS V A h s t) (hI : MI s t) (map : Int32) (k : Q (some (va_rf ((mHandO s t map).map A.2.1))) h) : gC (gD (d + 1)) 129 [.ref (hd A s), .int map] h Q := by
  unfold mHandO at k
  by_cases h0 : s 10 = 0
  · rw [if_pos h0] at k
    unfold hd
    rw [if_pos h0]
    exact c_129e d hS.2.2.2.1 map Q k
  · rw [if_neg h0] at k
    have hp := nv_pos hI.1 h0
    unfold hd
    rw [if_neg h0]
    exact c_129 d (hS.2.2.2.2.2.2.2.2 (nv (s 10) - 1) (by omega)).2.1 (hI.2 _ (by omega)).1 map Q k
theorem mMapO_k {t : Nat → Nat → Int32} {e m : Nat} {name : Int32} (h : mMapO t e name = some m) : ∃ k, k < nv (t 3 e) ∧ m = 8 * e + k ∧ t 4 m = name := by
  unfold mMapO at h
  cases hs : sr (mMapP t e name) (nv (t 3 e)) 0 with
  | none => rw [hs] at h; cases h
  | some k =>
    rw [hs] at h
    obtain ⟨-, h2, h3⟩ := sr_some hs
    have h := Option.some.inj h
    exact ⟨k, by omega, h.symm, by rw [← h]; exact of_decide_eq_true h3⟩
theorem CS.at (hS : CS V A h s t) {e m : Nat} {name : Int32} (he : e < nv (s 10)) (hm : mMapO t e name = some m) : CMp A h t m (lbS t m) (plS t m) (PT m) (t 2) := by
  obtain ⟨k, hk, rfl, -⟩ := mMapO_k hm
  exact (hS.2.2.2.2.2.2.2.2 e he).2.1.2.2 k hk
theorem CS.map (hS : CS V A h s t) (hI : MI s t) {map : Int32} {m : Nat} (hm : mHandO s t map = some m) : CMp A h t m (lbS t m) (plS t m) (PT m) (t 2) := by
  unfold mHandO at hm
  split at hm
  · cases hm
  · rename_i h0
    have hp := nv_pos hI.1 h0
    exact hS.at (e := nv (s 10) - 1) (by omega) hm
theorem cNm_eq {t : Nat → Nat → Int32} {m : Nat} (hM : MapI t m) (name : Int32) : cNm t m name = mFldO t m name := by
  unfold cNm mFldO
  split
  · rename_i h0
    symm
    cases hs : sr (mFldP t m name) (nv (t 7 m)) 0 with
    | none => rfl
    | some f =>
      have := (sr_some hs).2.2
      have := (of_decide_eq_true this).1
      rw [h0] at this
      exact absurd this (by decide)
  · rename_i h0
    refine sr_congr (fun f _ hf => ?_)
    unfold mFldP
    have hF := (hM.2.2.2.2 f (by omega)).1 0 (by decide)
    by_cases he : t 8 (fI m f 0) = name
    · have hpos : 0 < name := by
        rw [← he] at h0 ⊢
        obtain ⟨a, ha, ea⟩ := ps_ex hF
        have ha : a ≤ 99 := ha
        rw [ea] at h0 ⊢
        have : a ≠ 0 := fun z => h0 (by rw [z]; rfl)
        exact (nI_ltI (a := 0) (by decide) (by omega)).mpr (by omega)
      rw [decide_eq_true he, decide_eq_true ⟨hpos, he⟩]
    · rw [decide_eq_false he, decide_eq_false (fun z => he z.2)]
theorem va_some {A : Nat → Nat} {m : Nat} : va_rf ((some m).map A) = .ref (A m) := rfl
/-- field -/
theorem c_451 (d : Nat) (hS : CS V A h s t) (hI : MI s t) (map i what : Int32) (k : Q (some (.int (mField s t map i what))) h) : gC (gD (d + 2)) 451 [.ref 0, .int map, .int i, .int what] h Q := by
  have h0 := hS.1
  obtain ⟨xa, ha⟩ := hS.hnd hI
  refine gC.of (q := me_451.2) rfl (Nat.le_of_ble_eq_true rfl) rfl ?_
  refine gG.step (cd := cd_451) rfl (fun _ => rfl) ?_
  refine gG.get rfl (h0) rfl ?_
  refine gG.step rfl (fun _ => rfl) ?_
  show gG _ _ _ _ 5 _ [Value.int map, Value.ref (hd A s)] h Q
  refine gG.vir rfl (ha) rfl rfl (Nat.le_of_ble_eq_true rfl) rfl rfl (Nat.le_of_ble_eq_true rfl) ?_
  refine c_hand d hS hI map ?_
  show gG _ _ _ _ 8 _ [va_rf ((mHandO s t map).map A.2.1)] h Q
  unfold mField at k
  cases ho : mHandO s t map with
  | none =>
    rw [ho] at k
    refine gG.step rfl (fun _ => rfl) ?_
    refine gG.step rfl (fun _ => rfl) ?_
    refine gG.jmp (tgt := 28) rfl (fun _ => rfl) rfl ?_
    refine gG.step rfl (fun _ => rfl) ?_
    exact gG.done rfl (fun _ => rfl) (k)
  | some m =>
    rw [ho] at k
    dsimp only at k
    have hM := (mHandO_some hI ho).2.1
    have hm := hS.map hI ho
    have ho := hm.2.1
    obtain ⟨ga, hga, hgf⟩ := hm.2.2.1
    obtain ⟨n, hn, e7⟩ := ps_ex hM.2.2.2.1
    have e7n : nv (t 7 m) = n := by rw [e7, nv_nI (by omega)]
    rw [e7n] at hgf
    rw [va_some]
    refine gG.step (L' := [some (.ref 0), some (.int map), some (.int i), some (.int what), some (.ref (A.2.1 m)), none]) rfl (fun _ => rfl) ?_
    iterate 2 refine gG.step rfl (fun _ => rfl) ?_
    refine gG.step rfl (fun _ => rfl) ?_
    rw [e7] at k
    refine gG.ifc (tgt := 28) rfl rfl (fun c => ?_) (fun c => ?_)
    · have hc : i < 0 := of_decide_eq_true c
      rw [if_neg (fun z => Int32.not_lt.mpr z.1 hc)] at k
      refine gG.step rfl (fun _ => rfl) ?_
      exact gG.done rfl (fun _ => rfl) (k)
    · have hc : 0 ≤ i := Int32.not_lt.mp (fun z => c (decide_eq_true z))
      iterate 2 refine gG.step rfl (fun _ => rfl) ?_
      refine gG.get rfl (ho) rfl ?_
      rw [e7]
      refine gG.icmp (tgt := 30) rfl rfl (fun c2 => ?_) (fun c2 => ?_)
      case refine_2 =>
        have hc2 : nI n ≤ i := Int32.not_lt.mp (fun z => c2 (decide_eq_true z))
        have : ¬ (0 ≤ i ∧ i ≤ nI n - 1) := by
          intro z
          obtain ⟨j, hj, rfl⟩ := wn_of (by omega) z
          have := (nI_leI (by omega) (by omega)).mp hc2
          omega
        rw [if_neg this] at k
        refine gG.step rfl (fun _ => rfl) ?_
        exact gG.done rfl (fun _ => rfl) (k)
      case refine_1 =>
      have hc2 : i < nI n := of_decide_eq_true c2
      obtain ⟨j, hj, rfl⟩ : ∃ j, j < n ∧ i = nI j := by
        rcases pk_ix i (n := n) (by omega) with h1 | h1 | h1
        · exact absurd hc (Int32.not_le.mpr h1)
        · exact absurd hc2 (Int32.not_lt.mpr h1)
        · exact h1
      have hin : 0 ≤ nI j ∧ nI j ≤ nI n - 1 := by
        refine ⟨nI_pos' (by omega), ?_⟩
        rw [show (1 : Int32) = nI 1 from rfl, pk_sub (by omega), nI_leI (by omega) (by omega)]
        omega
      rw [if_pos hin, nv_nI (by omega)] at k
      obtain ⟨oc, pi, sh, -, hx, -⟩ := hm.fld (f := j) (by omega)
      refine gG.step rfl (fun _ => rfl) ?_
      refine gG.get rfl (ho) rfl ?_
      refine gG.step rfl (fun _ => rfl) ?_
      refine gG.aal (j := j) rfl hga (hgf j (by omega)) rfl (show j < 30 by omega) (by decide) ?_
      refine gG.step (L' := [some (.ref 0), some (.int map), some (.int (nI j)), some (.int what), some (.ref (A.2.1 m)), some (.ref (A.2.2 m j))]) rfl (fun _ => rfl) ?_
      refine gG.step rfl (fun _ => rfl) ?_
      by_cases hw : 0 ≤ what ∧ what ≤ 9
      · rw [if_pos hw] at k
        obtain ⟨w, hw10, rfl⟩ := wn_of (n := 10) (by decide) hw
        rw [nv_nI (by omega)] at k
        have : w = 0 ∨ w = 1 ∨ w = 2 ∨ w = 3 ∨ w = 4 ∨ w = 5 ∨ w = 6 ∨ w = 7 ∨ w = 8 ∨ w = 9 := by omega
        rcases this with rfl | rfl | rfl | rfl | rfl | rfl | rfl | rfl | rfl | rfl
        · refine gG.tsw (off := 56) (tgt := 96) rfl rfl rfl ?_
          refine gG.step rfl (fun _ => rfl) ?_
          refine gG.get rfl (hx) rfl ?_
          exact gG.done rfl (fun _ => rfl) (k)
        · refine gG.tsw (off := 62) (tgt := 102) rfl rfl rfl ?_
          refine gG.step rfl (fun _ => rfl) ?_
          refine gG.get rfl (hx) rfl ?_
          exact gG.done rfl (fun _ => rfl) (k)
        · refine gG.tsw (off := 68) (tgt := 108) rfl rfl rfl ?_
          refine gG.step rfl (fun _ => rfl) ?_
          refine gG.get rfl (hx) rfl ?_
          exact gG.done rfl (fun _ => rfl) (k)
        · refine gG.tsw (off := 74) (tgt := 114) rfl rfl rfl ?_
          refine gG.step rfl (fun _ => rfl) ?_
          refine gG.get rfl (hx) rfl ?_
          exact gG.done rfl (fun _ => rfl) (k)
        · refine gG.tsw (off := 80) (tgt := 120) rfl rfl rfl ?_
          refine gG.step rfl (fun _ => rfl) ?_
          refine gG.get rfl (hx) rfl ?_
          exact gG.done rfl (fun _ => rfl) (k)
        · refine gG.tsw (off := 86) (tgt := 126) rfl rfl rfl ?_
          refine gG.step rfl (fun _ => rfl) ?_
          refine gG.get rfl (hx) rfl ?_
          exact gG.done rfl (fun _ => rfl) (k)
        · refine gG.tsw (off := 92) (tgt := 132) rfl rfl rfl ?_
          refine gG.step rfl (fun _ => rfl) ?_
          refine gG.get rfl (hx) rfl ?_
          exact gG.done rfl (fun _ => rfl) (k)
        · refine gG.tsw (off := 98) (tgt := 138) rfl rfl rfl ?_
          refine gG.step rfl (fun _ => rfl) ?_
          refine gG.get rfl (hx) rfl ?_
          exact gG.done rfl (fun _ => rfl) (k)
        · refine gG.tsw (off := 104) (tgt := 144) rfl rfl rfl ?_
          refine gG.step rfl (fun _ => rfl) ?_
          refine gG.get rfl (hx) rfl ?_
          exact gG.done rfl (fun _ => rfl) (k)
        · refine gG.tsw (off := 110) (tgt := 150) rfl rfl rfl ?_
          refine gG.step rfl (fun _ => rfl) ?_
          refine gG.get rfl (hx) rfl ?_
          obtain ⟨a, hle, ea⟩ := ps_ex ((hM.2.2.2.2 j (by omega)).1 9 (by decide))
          have hle : a ≤ 1 := hle
          have e9 : gF t m j 9 = nI a := ea
          rw [ea] at k
          rw [e9]
          have : a = 0 ∨ a = 1 := by omega
          rcases this with rfl | rfl
          · refine gG.ifc (tgt := 162) rfl rfl (fun _ => ?_) (fun c => absurd (by decide) c)
            refine gG.step rfl (fun _ => rfl) ?_
            exact gG.done rfl (fun _ => rfl) (k)
          · refine gG.ifc (tgt := 162) rfl rfl (fun c => absurd c (by decide)) (fun _ => ?_)
            refine gG.step rfl (fun _ => rfl) ?_
            refine gG.goto (tgt := 163) rfl rfl ?_
            exact gG.done rfl (fun _ => rfl) (k)
      · rw [if_neg hw] at k
        refine gG.tsw (off := 124) (tgt := 164) rfl ?_ rfl ?_
        · unfold im_tsw
          rw [if_pos]
          rw [Int32.le_iff_toInt_le, Int32.le_iff_toInt_le] at hw
          have e0 : (0 : Int32).toInt = 0 := rfl
          have e9 : (9 : Int32).toInt = 9 := rfl
          rw [e0, e9] at hw
          omega
        refine gG.step rfl (fun _ => rfl) ?_
        exact gG.done rfl (fun _ => rfl) (k)
/-- overlap -/
theorem c_452 (d : Nat) (hS : CS V A h s t) (hV : V) (i side : Int32) (k : Q (some (.int (mOverlap s i side))) h) : gC (gD (d + 1)) 452 [.ref 0, .int i, .int side] h Q := by
  have h0 := hS.1
  obtain ⟨ed, mp, lt, o1, o2, h5, hov⟩ := hS.2.2.2.2.1
  obtain ⟨rfl, rfl⟩ := hov hV
  refine gC.of (q := me_452.2) rfl (Nat.le_of_ble_eq_true rfl) rfl ?_
  refine gG.step (cd := cd_452) rfl (fun _ => rfl) ?_
  unfold mOverlap at k
  refine gG.ifc (tgt := 6) rfl rfl (fun c => ?_) (fun c => ?_)
  case refine_2 =>
    rw [if_pos (show ¬ i = 0 from fun z => c (c_ee.mpr z))] at k
    refine gG.step rfl (fun _ => rfl) ?_
    exact gG.done rfl (fun _ => rfl) (k)
  case refine_1 =>
  rw [if_neg (fun z => z (c_ee.mp c))] at k
  refine gG.step rfl (fun _ => rfl) ?_
  by_cases h1 : side = 0
  · subst h1
    refine gG.lsw (tgt := 32) rfl rfl rfl ?_
    refine gG.step rfl (fun _ => rfl) ?_
    refine gG.get rfl (h0) rfl ?_
    refine gG.get rfl (h5) rfl ?_
    exact gG.done rfl (fun _ => rfl) (k)
  · by_cases h2 : side = 1
    · subst h2
      refine gG.lsw (tgt := 40) rfl rfl rfl ?_
      refine gG.step rfl (fun _ => rfl) ?_
      refine gG.get rfl (h0) rfl ?_
      refine gG.get rfl (h5) rfl ?_
      exact gG.done rfl (fun _ => rfl) (k)
    · have e0 : ¬ side.toInt = 0 := i_ne h1
      have e1 : ¬ side.toInt = 1 := i_ne h2
      have hn : ¬ (0 ≤ side ∧ side ≤ 1) := by
        rw [Int32.le_iff_toInt_le, Int32.le_iff_toInt_le]
        have z0 : (0 : Int32).toInt = 0 := rfl
        have z1 : (1 : Int32).toInt = 1 := rfl
        omega
      rw [if_neg hn] at k
      refine gG.lsw (off := 41) (tgt := 48) rfl ?_ rfl ?_
      · simp [Op.lookupswitch.offset, e0, e1, Ne.symm e0, Ne.symm e1]
      refine gG.step rfl (fun _ => rfl) ?_
      exact gG.done rfl (fun _ => rfl) (k)
end CQ
