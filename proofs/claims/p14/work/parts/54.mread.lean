def nv (x : Int32) : Nat := x.toNatClampNeg
theorem nv_nI {n : Nat} (h : n < 2 ^ 31) : nv (nI n) = n := nI_clamp h
def oI (o : Option Nat) : Int32 := match o with
  | some k => nI k
  | none => -1
theorem sr_some {p : Nat → Bool} : ∀ {m i k : Nat}, sr p m i = some k → i ≤ k ∧ k < i + m ∧ p k = true
  | 0, i, k, h => by cases h
  | m + 1, i, k, h => by
    rw [sr] at h
    split at h
    · rename_i hp
      cases h
      exact ⟨Nat.le_refl _, by omega, hp⟩
    · obtain ⟨h1, h2, h3⟩ := sr_some h
      exact ⟨by omega, by omega, h3⟩
theorem sr_none {p : Nat → Bool} : ∀ {m i : Nat}, sr p m i = none → ∀ k, i ≤ k → k < i + m → p k = false
  | 0, i, _, k, h1, h2 => by omega
  | m + 1, i, h, k, h1, h2 => by
    rw [sr] at h
    split at h
    · cases h
    · rename_i hp
      by_cases hk : k = i
      · subst hk; simpa using hp
      · exact sr_none h k (by omega) (by omega)
theorem sr_congr {p q : Nat → Bool} : ∀ {m i : Nat}, (∀ k, i ≤ k → k < i + m → p k = q k) → sr p m i = sr q m i
  | 0, _, _ => rfl
  | m + 1, i, h => by
    rw [sr, sr, h i (Nat.le_refl _) (by omega), sr_congr (fun k h1 h2 => h k (by omega) (by omega))]
/-- a number that isn't negative, at most n -/
def ps (x : Int32) (n : Nat) : Prop := x = nI (nv x) ∧ nv x ≤ n
theorem ps.nI {a n : Nat} (h : a ≤ n) (hn : n < 2 ^ 31) : ps (nI a) n := ⟨by rw [nv_nI (by omega)], by rw [nv_nI (by omega)]; exact h⟩
def mFldO (t : Nat → Nat → Int32) (m : Nat) (name : Int32) : Option Nat := sr (mFldP t m name) (nv (t 7 m)) 0
def mOvrO (t : Nat → Nat → Int32) (m : Nat) (but row lo hi : Int32) : Option Nat := sr (mOvrP t m but row lo hi) (nv (t 7 m)) 0
def mMapO (t : Nat → Nat → Int32) (e : Nat) (name : Int32) : Option Nat := (sr (mMapP t e name) (nv (t 3 e)) 0).map fun k => 8 * e + k
def mHandO (s : Nat → Int32) (t : Nat → Nat → Int32) (name : Int32) : Option Nat := if s 10 = 0 then none else mMapO t (nv (s 10) - 1) name
theorem mMapR_eq (t : Nat → Nat → Int32) (e : Nat) (name : Int32) : mMapR t e name (nv (t 3 e)) = oI (mMapO t e name) := by
  unfold mMapR mMapO
  cases sr (mMapP t e name) (nv (t 3 e)) 0 <;> rfl
theorem mFldR_eq (t : Nat → Nat → Int32) (m : Nat) (name : Int32) : mFldR t m name (nv (t 7 m)) = oI (mFldO t m name) := by
  unfold mFldR mFldO
  cases sr (mFldP t m name) (nv (t 7 m)) 0 <;> rfl
theorem mOvrR_eq (t : Nat → Nat → Int32) (m : Nat) (but row lo hi : Int32) : mOvrR t m but row lo hi (nv (t 7 m)) = oI (mOvrO t m but row lo hi) := by
  unfold mOvrR mOvrO
  cases sr (mOvrP t m but row lo hi) (nv (t 7 m)) 0 <;> rfl
theorem m_518' (d : Nat) {b : Nat} {h0 h : im_H} {s : Nat → Int32} {t : Nat → Nat → Int32} (hM : MM b h0 h s t) {e : Nat} {name : Int32} (he : e < 6) (hp : ps (t 3 e) 8) (Q : Option Value → im_H → Prop) (k : Q (some (.int (oI (mMapO t e name)))) h) : gC (gD (d + 1)) 518 [.ref b, .int (nI e), .int name] h Q :=
  m_518 d hM he hp.2 hp.1 Q (by rw [mMapR_eq]; exact k)
theorem m_521' (d : Nat) {b : Nat} {h0 h : im_H} {s : Nat → Int32} {t : Nat → Nat → Int32} (hM : MM b h0 h s t) {m : Nat} {name : Int32} (hm : m < 48) (hp : ps (t 7 m) 30) (Q : Option Value → im_H → Prop) (k : Q (some (.int (oI (mFldO t m name)))) h) : gC (gD (d + 2)) 521 [.ref b, .int (nI m), .int name] h Q :=
  m_521 d hM hm hp.2 hp.1 Q (by rw [mFldR_eq]; exact k)
theorem m_523' (d : Nat) {b : Nat} {h0 h : im_H} {s : Nat → Int32} {t : Nat → Nat → Int32} (hM : MM b h0 h s t) {m : Nat} {but row lo hi : Int32} (hm : m < 48) (hp : ps (t 7 m) 30) (Q : Option Value → im_H → Prop) (k : Q (some (.int (oI (mOvrO t m but row lo hi)))) h) : gC (gD (d + 2)) 523 [.ref b, .int (nI m), .int but, .int row, .int lo, .int hi] h Q :=
  m_523 d hM hm hp.2 hp.1 Q (by rw [mOvrR_eq]; exact k)
theorem m_535 (d : Nat) {b : Nat} {h0 h : im_H} {s : Nat → Int32} {t : Nat → Nat → Int32} (hM : MM b h0 h s t) {name : Int32} (hE : ps (s 10) 6) (hp : 0 < nv (s 10) → ps (t 3 (nv (s 10) - 1)) 8) (Q : Option Value → im_H → Prop) (k : Q (some (.int (oI (mHandO s t name)))) h) : gC (gD (d + 2)) 535 [.ref b, .int name] h Q := by
  refine gC.of (q := me_535.2) rfl (Nat.le_of_ble_eq_true rfl) rfl ?_
  refine gG.step (cd := cd_535) rfl (fun _ => rfl) ?_
  refine mGet hM rfl rfl ?_
  unfold mHandO at k
  refine gG.ifc (tgt := 11) rfl rfl (fun c => ?_) (fun c => ?_)
  · have h0 : ¬ s 10 = 0 := c_ne.mp c
    rw [if_neg h0] at k
    have hE0 : 0 < nv (s 10) := by
      apply Nat.pos_of_ne_zero
      intro hz
      apply h0
      rw [hE.1, hz]
      rfl
    iterate 2 refine gG.step rfl (fun _ => rfl) ?_
    refine mGet hM rfl rfl ?_
    iterate 2 refine gG.step rfl (fun _ => rfl) ?_
    have e1 : s 10 - 1 = nI (nv (s 10) - 1) := by
      rw [hE.1, nv_nI (by have := hE.2; omega), show (1 : Int32) = nI 1 from rfl, pk_sub hE0]
    show gG _ _ _ _ 18 _ [Value.int (s 10 - 1), Value.ref b] _ _
    rw [e1]
    refine gG.step rfl (fun _ => rfl) ?_
    refine mVir hM rfl rfl rfl (Nat.le_of_ble_eq_true rfl) rfl rfl (Nat.le_of_ble_eq_true rfl) ?_
    refine m_518' d hM (by have := hE.2; omega) (hp hE0) _ ?_
    exact gG.done rfl (fun _ => rfl) k
  · have h0 : s 10 = 0 := Decidable.not_not.mp (fun z => c (c_ne.mpr z))
    rw [if_pos h0] at k
    refine gG.step rfl (fun _ => rfl) ?_
    refine gG.goto (tgt := 22) rfl rfl ?_
    exact gG.done rfl (fun _ => rfl) (k)
def fB (w : Nat) : Nat := match w with
  | 0 => 99
  | 1 => 24
  | 2 => 80
  | 3 => 80
  | 4 => 15
  | 5 => 20
  | 6 => 99
  | 7 => 9
  | 8 => 3
  | 9 => 1
  | 10 => 1
  | 11 => 1
  | 12 => 18000
  | _ => 80
/-- a field, a map, what is kept: the numbers are within their bounds -/
def FldI (t : Nat → Nat → Int32) (m f : Nat) : Prop := (∀ w, w < 14 → ps (t 8 (fI m f w)) (fB w)) ∧ 1 ≤ nv (t 8 (fI m f 2)) ∧ 1 ≤ nv (t 8 (fI m f 5)) ∧ (0 < nv (t 8 (fI m f 0)) → 1 ≤ nv (t 8 (fI m f 3))) ∧ (nv (t 8 (fI m f 7)) = 0 ∨ nv (t 8 (fI m f 7)) < nv (t 8 (fI m f 3))) ∧ nv (t 8 (fI m f 12)) + nv (t 8 (fI m f 13)) ≤ 18000 ∧ nv (t 8 (fI m f 13)) ≤ nv (t 8 (fI m f 3)) ∧ nv (t 8 (fI m f 2)) + (nv (t 8 (fI m f 3)) + 1) * nv (t 8 (fI m f 5)) ≤ 81
def MapI (t : Nat → Nat → Int32) (m : Nat) : Prop := ps (t 4 m) 99 ∧ ps (t 5 m) 24 ∧ ps (t 6 m) 80 ∧ ps (t 7 m) 30 ∧ ∀ f, f < nv (t 7 m) → FldI t m f
def MI (s : Nat → Int32) (t : Nat → Nat → Int32) : Prop := ps (s 10) 6 ∧ ∀ e, e < nv (s 10) → ps (t 3 e) 8 ∧ ∀ k, k < nv (t 3 e) → MapI t (8 * e + k)
theorem mMapO_some {s : Nat → Int32} {t : Nat → Nat → Int32} {e : Nat} {name : Int32} {m : Nat} (hI : MI s t) (he : e < nv (s 10)) (h : mMapO t e name = some m) : m < 48 ∧ MapI t m ∧ t 4 m = name := by
  unfold mMapO at h
  cases hs : sr (mMapP t e name) (nv (t 3 e)) 0 with
  | none => rw [hs] at h; cases h
  | some k =>
    rw [hs] at h
    cases h
    obtain ⟨-, h2, h3⟩ := sr_some hs
    rw [Nat.zero_add] at h2
    have h4 := (hI.2 e he).1.2
    have h5 := hI.1.2
    exact ⟨show 8 * e + k < 48 by omega, (hI.2 e he).2 k h2, of_decide_eq_true h3⟩
theorem nv_pos {x : Int32} {n : Nat} (hp : ps x n) (h0 : ¬ x = 0) : 0 < nv x := by
  apply Nat.pos_of_ne_zero
  intro hz
  apply h0
  rw [hp.1, hz]
  rfl
theorem mHandO_some {s : Nat → Int32} {t : Nat → Nat → Int32} {name : Int32} {m : Nat} (hI : MI s t) (h : mHandO s t name = some m) : m < 48 ∧ MapI t m ∧ t 4 m = name := by
  unfold mHandO at h
  split at h
  · cases h
  · rename_i h0
    have := nv_pos hI.1 h0
    exact mMapO_some hI (by omega) h
theorem m_535' (d : Nat) {b : Nat} {h0 h : im_H} {s : Nat → Int32} {t : Nat → Nat → Int32} (hM : MM b h0 h s t) (hI : MI s t) {name : Int32} (Q : Option Value → im_H → Prop) (k : Q (some (.int (oI (mHandO s t name)))) h) : gC (gD (d + 2)) 535 [.ref b, .int name] h Q :=
  m_535 d hM hI.1 (fun hz => (hI.2 _ (by omega)).1) Q k
theorem c_ltn {k : Nat} (hk : k < 2 ^ 31) : ¬ im_cmp .lt (nI k) 0 = true := fun c => absurd ((c_lt (b := 0) hk (by decide)).mp c) (by omega)
theorem c_gen {k : Nat} (hk : k < 2 ^ 31) : im_cmp .ge (nI k) 0 = true := (c_ge (b := 0) hk (by decide)).mpr (by omega)
/-- a sieve of an Int32 between 0 and n - 1 -/
theorem wn_of {x : Int32} {n : Nat} (hn : n < 2 ^ 31) (h : 0 ≤ x ∧ x ≤ nI n - 1) : ∃ j, j < n ∧ x = nI j := by
  rcases pk_ix x hn with h1 | h1 | h1
  · exact absurd h.1 (Int32.not_le.mpr h1)
  · exfalso
    have h2 := h.2
    rw [Int32.le_iff_toInt_le] at h1 h2
    rw [nI_toInt hn] at h1
    have h3 := h.1
    rw [Int32.le_iff_toInt_le] at h3
    cases n with
    | zero =>
      have : (nI 0 - 1).toInt = -1 := by decide
      rw [this] at h2
      have : (0 : Int32).toInt = 0 := by decide
      omega
    | succ m =>
      rw [nI_pred, nI_toInt (by omega)] at h2
      omega
  · exact h1
def mField (s : Nat → Int32) (t : Nat → Nat → Int32) (map i what : Int32) : Int32 := match mHandO s t map with
  | none => -1
  | some m => if 0 ≤ i ∧ i ≤ t 7 m - 1 then (if 0 ≤ what ∧ what ≤ 9 then t 8 (fI m (nv i) (nv what)) else -1) else -1
theorem m_536 (d : Nat) {b : Nat} {h0 h : im_H} {s : Nat → Int32} {t : Nat → Nat → Int32} (hM : MM b h0 h s t) (hI : MI s t) {map i what : Int32} (Q : Option Value → im_H → Prop) (k : ∀ h', MM b h0 h' (upd s 0 0) t → Q (some (.int (mField s t map i what))) h') : gC (gD (d + 3)) 536 [.ref b, .int map, .int i, .int what] h Q := by
  refine gC.of (q := me_536.2) rfl (Nat.le_of_ble_eq_true rfl) rfl ?_
  iterate 2 refine gG.step (cd := cd_536) rfl (fun _ => rfl) ?_
  refine mPut hM rfl (by decide) rfl rfl rfl (fun h hM => ?_)
  have k := k h hM
  have hI : MI (upd s 0 0) t := hI
  iterate 2 refine gG.step rfl (fun _ => rfl) ?_
  refine mVir hM rfl rfl rfl (Nat.le_of_ble_eq_true rfl) rfl rfl (Nat.le_of_ble_eq_true rfl) ?_
  refine m_535' (d + 0) hM hI _ ?_
  have e0 : mHandO (upd s 0 0) t map = mHandO s t map := rfl
  show gG _ _ _ _ 10 _ [Value.int (oI (mHandO s t map))] h Q
  unfold mField at k
  cases ho : mHandO s t map with
  | none =>
    rw [ho] at k
    iterate 2 refine gG.step rfl (fun _ => rfl) ?_
    refine gG.ifc (tgt := 55) rfl rfl (fun _ => ?_) (fun c => absurd (show im_cmp .lt (-1) 0 = true by decide) c)
    refine gG.step rfl (fun _ => rfl) ?_
    exact gG.done rfl (fun _ => rfl) (k)
  | some m =>
    rw [ho] at k
    dsimp only at k
    obtain ⟨hm, hmi, -⟩ := mHandO_some hI (e0.trans ho)
    iterate 2 refine gG.step rfl (fun _ => rfl) ?_
    refine gG.ifc (tgt := 55) rfl rfl (fun c => absurd c (c_ltn (by omega))) (fun _ => ?_)
    iterate 3 refine gG.step rfl (fun _ => rfl) ?_
    refine mGet hM rfl rfl ?_
    refine gG.step rfl (fun _ => rfl) ?_
    refine mAld (j := 7) (n := m) hM rfl (by decide) (by decide) rfl (show m < 48 from hm) ?_
    iterate 2 refine gG.step rfl (fun _ => rfl) ?_
    refine gG.inv rfl (fun _ => rfl) (Nat.le_of_ble_eq_true rfl) rfl rfl (Nat.le_of_ble_eq_true rfl) ?_
    refine m_514 (d + 1) _ _ _ _ _ ?_
    by_cases h1 : 0 ≤ i ∧ i ≤ t 7 m - 1
    · rw [if_pos h1] at k
      show gG _ _ _ _ 31 _ [Value.int (bI (decide (0 ≤ i ∧ i ≤ t 7 m - 1)))] _ _
      rw [decide_eq_true h1]
      refine gG.ifc (tgt := 55) rfl rfl (fun c => absurd c (by decide)) (fun _ => ?_)
      iterate 3 refine gG.step rfl (fun _ => rfl) ?_
      refine gG.inv rfl (fun _ => rfl) (Nat.le_of_ble_eq_true rfl) rfl rfl (Nat.le_of_ble_eq_true rfl) ?_
      refine m_514 (d + 1) _ _ _ _ _ ?_
      by_cases h2 : 0 ≤ what ∧ what ≤ 9
      · rw [if_pos h2] at k
        show gG _ _ _ _ 41 _ [Value.int (bI (decide (0 ≤ what ∧ what ≤ 9)))] _ _
        rw [decide_eq_true h2]
        refine gG.ifc (tgt := 55) rfl rfl (fun c => absurd c (by decide)) (fun _ => ?_)
        obtain ⟨j, hj, rfl⟩ := wn_of (n := nv (t 7 m)) (by have := hmi.2.2.2.1.2; omega) (by rw [← hmi.2.2.2.1.1]; exact h1)
        obtain ⟨w, hw, rfl⟩ := wn_of (n := 10) (by decide) h2
        have hj30 := hmi.2.2.2.1.2
        rw [nv_nI (by omega), nv_nI (by omega)] at k
        iterate 4 refine gG.step rfl (fun _ => rfl) ?_
        refine mVir hM rfl rfl rfl (Nat.le_of_ble_eq_true rfl) rfl rfl (Nat.le_of_ble_eq_true rfl) ?_
        refine m_519 (d + 1) hM hm (by omega) (by omega) _ ?_
        refine gG.goto (tgt := 56) rfl rfl ?_
        exact gG.done rfl (fun _ => rfl) (k)
      · rw [if_neg h2] at k
        show gG _ _ _ _ 41 _ [Value.int (bI (decide (0 ≤ what ∧ what ≤ 9)))] _ _
        rw [decide_eq_false h2]
        refine gG.ifc (tgt := 55) rfl rfl (fun _ => ?_) (fun c => absurd (by decide) c)
        refine gG.step rfl (fun _ => rfl) ?_
        exact gG.done rfl (fun _ => rfl) (k)
    · rw [if_neg h1] at k
      show gG _ _ _ _ 31 _ [Value.int (bI (decide (0 ≤ i ∧ i ≤ t 7 m - 1)))] _ _
      rw [decide_eq_false h1]
      refine gG.ifc (tgt := 55) rfl rfl (fun _ => ?_) (fun c => absurd (by decide) c)
      refine gG.step rfl (fun _ => rfl) ?_
      exact gG.done rfl (fun _ => rfl) (k)
