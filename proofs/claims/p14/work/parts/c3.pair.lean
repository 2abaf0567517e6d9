/-! THE LAW'S STATE, and the calls in pairs -/
def lZ : Nat := 60000
def LJ (V : Prop) (i : Nat) (h : im_H) : Prop := ∃ (A : Bk) (s : Nat → Int32) (t : Nat → Nat → Int32), MM 11 h h s t ∧ CS V A h s t ∧ RI s t ∧ (∃ f, h[24]? = some (.inl (2, 1, .inr (.inl f)))) ∧ 25 ≤ h.length ∧ h.length + 2 * nv (s 2) ≤ 25 + 8 * i ∧ im_sz h + 40 * nv (s 2) ≤ lZ + 160 * i
theorem CS_V {V V' : Prop} {A : Bk} {h : im_H} {s : Nat → Int32} {t : Nat → Nat → Int32} (hv : V' → V) (hS : CS V A h s t) : CS V' A h s t := by
  obtain ⟨a0, a1, a2, a3, ⟨ed, mp, lt, o1, o2, a5, a5v⟩, a6, a8, a10, aE⟩ := hS
  exact ⟨a0, a1, a2, a3, ⟨ed, mp, lt, o1, o2, a5, fun v => a5v (hv v)⟩, a6, a8, a10, aE⟩
theorem LJ.wk {V : Prop} {i : Nat} {h : im_H} (hJ : LJ V i h) : LJ False i h := by
  obtain ⟨A, s, t, h1, h2, h3⟩ := hJ
  exact ⟨A, s, t, h1, CS_V False.elim h2, h3⟩
theorem CS_00 {V : Prop} {A : Bk} {h : im_H} {s : Nat → Int32} {t : Nat → Nat → Int32} {v : Int32} (hS : CS V A h s t) : CS V A h (upd s 0 v) t := hS
/-- the reference has moved: h1 the cells behind the class's call, h2 behind the reference's -/
theorem LJ_ref {V : Prop} {A : Bk} {i : Nat} {h1 h2 : im_H} {s' : Nat → Int32} {t' : Nat → Nat → Int32} (hM' : MM 11 h1 h2 s' t') (hS' : CS V A h1 s' t') (hR' : RI s' t') (h24 : ∃ f, h1[24]? = some (.inl (2, 1, .inr (.inl f)))) (h25 : 25 ≤ h1.length) (hc : h1.length + 2 * nv (s' 2) ≤ 25 + 8 * (i + 1)) (hz : im_sz h1 + 40 * nv (s' 2) ≤ lZ + 160 * (i + 1)) : LJ False (i + 1) h2 := by
  obtain ⟨⟨f1, f2, f3⟩, m1, m2⟩ := hM'
  obtain ⟨f, h24⟩ := h24
  refine ⟨A, s', t', ⟨fr.rf, m1, m2⟩, CS_V False.elim (CS_ref hR'.1 (fun k hk => f3 k (by omega)) hS'), hR', ⟨f, ?_⟩, by omega, by omega, by omega⟩
  rw [f3 24 (by decide)]
  exact h24
section PAIR
variable {V : Prop} {i : Nat} {h : im_H}
/-- both sides are called, with the same words -/
def PP (V : Prop) (i : Nat) (h : im_H) (y1 y2 : Nat) (as : List Value) (e : Prop) : Prop := (∃ fs, h[0]? = some (.inr (7, fs))) ∧ gC (gD 8) y1 (.ref 0 :: as) h (fun r h1 => (∃ fs, h1[11]? = some (.inr (8, fs))) ∧ ∃ x, r = some (.int x) ∧ gC (gD 8) y2 (.ref 11 :: as) h1 (fun r' h2 => ∃ x', r' = some (.int x') ∧ (e → x = x') ∧ LJ False (i + 1) h2))
theorem PP.q {A : Bk} {s : Nat → Int32} {t : Nat → Nat → Int32} {y1 y2 : Nat} {as : List Value} {x : Int32} (hM : MM 11 h h s t) (hS : CS V A h s t) (hR : RI s t) (h24 : ∃ f, h[24]? = some (.inl (2, 1, .inr (.inl f)))) (h25 : 25 ≤ h.length) (hc : h.length + 2 * nv (s 2) ≤ 25 + 8 * i) (hz : im_sz h + 40 * nv (s 2) ≤ lZ + 160 * i)
    (k1 : ∀ Q : Option Value → im_H → Prop, Q (some (.int x)) h → gC (gD 8) y1 (.ref 0 :: as) h Q) (k2 : ∀ Q : Option Value → im_H → Prop, (∀ h', MM 11 h h' (upd s 0 0) t → Q (some (.int x)) h') → gC (gD 8) y2 (.ref 11 :: as) h Q) : PP V i h y1 y2 as True := by
  refine ⟨⟨_, hS.1⟩, k1 _ ⟨⟨_, hM.2.1⟩, x, rfl, k2 _ (fun h2 hM2 => ⟨x, rfl, fun _ => rfl, ?_⟩)⟩⟩
  exact LJ_ref hM2 (CS_00 hS) (RI_0 0 hR) h24 h25 (by show h.length + 2 * nv (s 2) ≤ _; omega) (by show im_sz h + 40 * nv (s 2) ≤ _; omega)
theorem PP_field (hJ : LJ V i h) (a b c : Int32) : PP V i h 451 536 [.int a, .int b, .int c] True := by
  obtain ⟨A, s, t, hM, hS, hR, h24, h25, hc, hz⟩ := hJ
  exact PP.q hM hS hR h24 h25 hc hz (fun Q k => c_451 6 hS hR.1 a b c k) (fun Q k => m_536 5 hM hR.1 Q k)
theorem PP_layout (hJ : LJ V i h) (a b c : Int32) : PP V i h 453 540 [.int a, .int b, .int c] True := by
  obtain ⟨A, s, t, hM, hS, hR, h24, h25, hc, hz⟩ := hJ
  exact PP.q hM hS hR h24 h25 hc hz (fun Q k => c_453 5 hS hR.1 a b c k) (fun Q k => m_540 4 hM hR.1 Q k)
theorem PP_screen (hJ : LJ V i h) (a b c : Int32) : PP V i h 454 541 [.int a, .int b, .int c] True := by
  obtain ⟨A, s, t, hM, hS, hR, h24, h25, hc, hz⟩ := hJ
  exact PP.q hM hS hR h24 h25 hc hz (fun Q k => c_454 5 hS hR.1 a b c k) (fun Q k => m_541 5 hM hR.1 Q k)
theorem PP_differ (hJ : LJ V i h) (a : Int32) : PP V i h 458 548 [.int a] True := by
  obtain ⟨A, s, t, hM, hS, hR, h24, h25, hc, hz⟩ := hJ
  exact PP.q hM hS hR h24 h25 hc hz (fun Q k => c_458 5 hS hR.1 a k) (fun Q k => m_548 3 hM hR.1 Q k)
theorem PP_program (hJ : LJ V i h) (a b : Int32) : PP V i h 459 549 [.int a, .int b] True := by
  obtain ⟨A, s, t, hM, hS, hR, h24, h25, hc, hz⟩ := hJ
  exact PP.q hM hS hR h24 h25 hc hz (fun Q k => c_459 5 hS hR.1 a b k) (fun Q k => m_549 3 hM hR.1 Q k)
theorem PP_group (hJ : LJ V i h) (a b : Int32) : PP V i h 460 550 [.int a, .int b] True := by
  obtain ⟨A, s, t, hM, hS, hR, h24, h25, hc, hz⟩ := hJ
  exact PP.q hM hS hR h24 h25 hc hz (fun Q k => c_460 5 hS hR.1 a b k) (fun Q k => m_550 5 hM hR.1 Q k)
theorem PP_told (hJ : LJ V i h) (a : Int32) : PP V i h 461 551 [.int a] True := by
  obtain ⟨A, s, t, hM, hS, hR, h24, h25, hc, hz⟩ := hJ
  exact PP.q hM hS hR h24 h25 hc hz (fun Q k => c_461 7 hS hR.1 a k) (fun Q k => m_551 7 hM hR.1 Q k)
/-- overlap: some number, where V doesn't hold -/
theorem c_452n (d : Nat) {A : Bk} {s : Nat → Int32} {t : Nat → Nat → Int32} {Q : Option Value → im_H → Prop} (hS : CS V A h s t) (i side : Int32) (k : ∀ x, Q (some (.int x)) h) : gC (gD (d + 1)) 452 [.ref 0, .int i, .int side] h Q := by
  have h0 := hS.1
  obtain ⟨ed, mp, lt, o1, o2, h5, -⟩ := hS.2.2.2.2.1
  refine gC.of (q := me_452.2) rfl (Nat.le_of_ble_eq_true rfl) rfl ?_
  refine gG.step (cd := cd_452) rfl (fun _ => rfl) ?_
  refine gG.ifc (tgt := 6) rfl rfl (fun c => ?_) (fun c => ?_)
  case refine_2 =>
    refine gG.step rfl (fun _ => rfl) ?_
    exact gG.done rfl (fun _ => rfl) (k _)
  case refine_1 =>
  refine gG.step rfl (fun _ => rfl) ?_
  by_cases h1 : side = 0
  · subst h1
    refine gG.lsw (tgt := 32) rfl rfl rfl ?_
    refine gG.step rfl (fun _ => rfl) ?_
    refine gG.get rfl (h0) rfl ?_
    refine gG.get rfl (h5) rfl ?_
    exact gG.done rfl (fun _ => rfl) (k _)
  · by_cases h2 : side = 1
    · subst h2
      refine gG.lsw (tgt := 40) rfl rfl rfl ?_
      refine gG.step rfl (fun _ => rfl) ?_
      refine gG.get rfl (h0) rfl ?_
      refine gG.get rfl (h5) rfl ?_
      exact gG.done rfl (fun _ => rfl) (k _)
    · have e0 : ¬ side.toInt = 0 := i_ne h1
      have e1 : ¬ side.toInt = 1 := i_ne h2
      refine gG.lsw (off := 41) (tgt := 48) rfl ?_ rfl ?_
      · simp [Op.lookupswitch.offset, e0, e1, Ne.symm e0, Ne.symm e1]
      refine gG.step rfl (fun _ => rfl) ?_
      exact gG.done rfl (fun _ => rfl) (k _)
theorem PP_overlap (hJ : LJ V i h) (a b : Int32) : PP V i h 452 537 [.int a, .int b] V := by
  obtain ⟨A, s, t, hM, hS, hR, h24, h25, hc, hz⟩ := hJ
  by_cases hV : V
  · obtain ⟨p1, p2⟩ := PP.q (V := V) (i := i) hM hS hR h24 h25 hc hz (fun Q k => c_452 7 hS hV a b k) (fun Q k => m_537 6 hM (i := a) (side := b) Q k)
    refine ⟨p1, gC.mono p2 (fun r h1 ⟨q1, x, q2, q3⟩ => ⟨q1, x, q2, gC.mono q3 (fun r' h2 ⟨x', w1, w2, w3⟩ => ⟨x', w1, fun _ => w2 trivial, w3⟩)⟩)⟩
  · refine ⟨⟨_, hS.1⟩, c_452n 7 hS a b (fun x => ⟨⟨_, hM.2.1⟩, x, rfl, m_537 6 hM _ (fun h2 hM2 => ⟨_, rfl, fun v => absurd v hV, ?_⟩)⟩)⟩
    exact LJ_ref hM2 (CS_00 hS) (RI_0 0 hR) h24 h25 (by show h.length + 2 * nv (s 2) ≤ _; omega) (by show im_sz h + 40 * nv (s 2) ≤ _; omega)
theorem mFill_2 {s : Nat → Int32} {t : Nat → Nat → Int32} {a b c : Int32} : (mFill s t a b c).2.1 2 = s 2 := by
  unfold mFill
  cases mHandO s t a with
  | none => rfl
  | some m =>
    dsimp only
    cases mFldO t m b with
    | none => rfl
    | some f => rfl
theorem mTake_2 {s : Nat → Int32} {t : Nat → Nat → Int32} {a b : Int32} : (mTake s t a b).2.1 2 = s 2 := by
  unfold mTake
  cases mHandO s t a with
  | none => rfl
  | some m =>
    dsimp only
    split <;> rfl
theorem mS1_2 {q : (Nat → Int32) × (Nat → Nat → Int32)} {x : Int32} (h : ps (q.1 2) 3000) : nv ((mS1 q x).1 2) ≤ nv (q.1 2) + 1 := by
  unfold mS1
  split
  · show nv (q.1 2 + 1) ≤ _
    obtain ⟨a, ha, e⟩ := ps_ex h
    rw [e, nI_1, nv_nI (by omega), nv_nI (by omega)]
    exact Nat.le_refl _
  · exact Nat.le_succ _
theorem mSign_2 {s : Nat → Int32} {t : Nat → Nat → Int32} {c : Int32} (h : ps (s 2) 3000) : nv ((mSign s t c).1 2) ≤ nv (s 2) + 4 := by
  unfold mSign
  have h0 : ps ((upd s 0 0, t).1 2) 3000 := h
  have h1 := mS1_2 (x := mSh c 24) h0
  have p1 := mS1_ps (x := mSh c 24) h0
  have h2 := mS1_2 (x := mSh c 16) p1
  have p2 := mS1_ps (x := mSh c 16) p1
  have h3 := mS1_2 (x := mSh c 8) p2
  have p3 := mS1_ps (x := mSh c 8) p2
  have h4 := mS1_2 (x := mSh c 0) p3
  have h1 : _ ≤ nv (s 2) + 1 := h1
  omega
theorem mRead_2 {s : Nat → Int32} {t : Nat → Nat → Int32} : (mRead s t).2.1 2 = 0 := by
  unfold mRead
  split
  · rfl
  · have hK : Ke (mR0 s) (mLp (nv (s 2)) (nv (s 2) + 1) 0 0 (mR0 s) (va_up t 3 (upd (t 3) (nv (s 10)) 0))).2.1 (va_up t 3 (upd (t 3) (nv (s 10)) 0)) (mLp (nv (s 2)) (nv (s 2) + 1) 0 0 (mR0 s) (va_up t 3 (upd (t 3) (nv (s 10)) 0))).2.2 := Ke_lp _ _ _
    have h2 := hK.2.1
    unfold mEnd
    split
    · exact h2
    · exact h2
/-- the class's call gives the new state, then the reference's -/
theorem PP.w {A : Bk} {s : Nat → Int32} {t : Nat → Nat → Int32} {s' : Nat → Int32} {t' : Nat → Nat → Int32} {y1 y2 : Nat} {as : List Value} {x : Int32} {c z : Nat} (hM : MM 11 h h s t) (hS : CS V A h s t) (hR' : RI s' t') (h24 : ∃ f, h[24]? = some (.inl (2, 1, .inr (.inl f)))) (h25 : 25 ≤ h.length) (hc : h.length + c + 2 * nv (s' 2) ≤ 25 + 8 * (i + 1)) (hz : im_sz h + z + 40 * nv (s' 2) ≤ lZ + 160 * (i + 1))
    (k1 : ∀ Q : Option Value → im_H → Prop, (∀ A' h1, (∀ k, 11 ≤ k → k < 25 → h1[k]? = h[k]?) → h.length ≤ h1.length → h1.length ≤ h.length + c → im_sz h1 ≤ im_sz h + z → CS False A' h1 s' t' → Q (some (.int x)) h1) → gC (gD 8) y1 (.ref 0 :: as) h Q) (k2 : ∀ (Q : Option Value → im_H → Prop) (h1 : im_H), MM 11 h1 h1 s t → (∀ h', MM 11 h1 h' s' t' → Q (some (.int x)) h') → gC (gD 8) y2 (.ref 11 :: as) h1 Q) : PP V i h y1 y2 as True := by
  obtain ⟨f, h24⟩ := h24
  refine ⟨⟨_, hS.1⟩, k1 _ (fun A' h1 f1 f2 f3 f4 hS1 => ?_)⟩
  have hM1 : MM 11 h1 h1 s t := MM_cls (fun k a b => f1 k a (by omega)) hM
  refine ⟨⟨_, hM1.2.1⟩, x, rfl, k2 _ h1 hM1 (fun h2 hM2 => ⟨x, rfl, fun _ => rfl, ?_⟩)⟩
  exact LJ_ref hM2 hS1 hR' ⟨f, by rw [f1 24 (by decide) (by decide)]; exact h24⟩ (by omega) (by omega) (by omega)
theorem PP_fill (hJ : LJ V i h) (a b c : Int32) : PP V i h 455 543 [.int a, .int b, .int c] True := by
  obtain ⟨A, s, t, hM, hS, hR, h24, h25, hc, hz⟩ := hJ
  refine PP.w (c := 0) (z := 0) hM hS (RI_fill (map := a) (field := b) (v := c) hR) h24 h25 (by rw [mFill_2]; omega) (by rw [mFill_2]; omega) (fun Q k => c_455 3 hS hR a b c Q (fun h1 f1 hS1 => k A h1 (fun k x y => f1.2.2 k (by omega)) (by have := f1.1; omega) (by have := f1.1; omega) (by have := f1.2.1; omega) (CS_V False.elim hS1))) (fun Q h1 hM1 k => m_543 5 hM1 hR.1 Q k)
theorem PP_take (hJ : LJ V i h) (a : Int32) {b : Int32} (hb : b.toInt8.toInt32 = b) : PP V i h 457 546 [.int a, .int b] True := by
  obtain ⟨A, s, t, hM, hS, hR, h24, h25, hc, hz⟩ := hJ
  refine PP.w (c := 0) (z := 0) hM hS (RI_take (map := a) (x := b) hR) h24 h25 (by rw [mTake_2]; omega) (by rw [mTake_2]; omega) (fun Q k => c_457 2 hS hR a hb Q (fun h1 f1 hS1 => k A h1 (fun k x y => f1.2.2 k (by omega)) (by have := f1.1; omega) (by have := f1.1; omega) (by have := f1.2.1; omega) (CS_V False.elim hS1))) (fun Q h1 hM1 k => m_546 4 hM1 hR.1 hR.2.2.2.1 hR.2.2.2.2.1 Q k)
theorem PP_read (hJ : LJ V i h) : PP V i h 450 534 [] True := by
  obtain ⟨A, s, t, hM, hS, hR, h24, h25, hc, hz⟩ := hJ
  have hS0 : CS False A h s t := CS_V False.elim hS
  have h0 : nv ((mRead s t).2.1 2) = 0 := by rw [mRead_2]; rfl
  refine PP.w (c := 2 + 2 * nv (s 2)) (z := 10 + 40 * nv (s 2)) hM hS (RI_read hR) h24 h25 (by omega) (by omega) (fun Q k => c_450 1 (fun v => v) hS0 hR h25 (fun A' h1 f1 f2 f3 f4 hS1 => k A' h1 f1 f2 (by omega) (by omega) hS1)) (fun Q h1 hM1 k => m_534' 2 hM1 hR Q k)
/-- sign answers nothing -/
theorem PP_sign (hJ : LJ V i h) (a : Int32) : (∃ fs, h[0]? = some (.inr (7, fs))) ∧ gC (gD 8) 449 [.ref 0, .int a] h (fun r h1 => (∃ fs, h1[11]? = some (.inr (8, fs))) ∧ r = none ∧ gC (gD 8) 515 [.ref 11, .int a] h1 (fun r' h2 => r' = none ∧ LJ False (i + 1) h2)) := by
  obtain ⟨A, s, t, hM, hS, hR, ⟨f, h24⟩, h25, hc, hz⟩ := hJ
  have h2 := mSign_2 (t := t) (c := a) hR.2.1
  refine ⟨⟨_, hS.1⟩, c_449 6 hS hR a _ (fun h1 f1 hS1 => ?_)⟩
  have hM1 : MM 11 h1 h1 s t := MM_cls (fun k a b => f1.2.2 k (by omega)) hM
  have l1 := f1.1
  have l2 := f1.2.1
  refine ⟨⟨_, hM1.2.1⟩, rfl, m_515 6 hM1 hR.2.1 _ (fun h2 hM2 => ⟨rfl, ?_⟩)⟩
  exact LJ_ref hM2 (CS_V (V' := False) False.elim hS1) (RI_sign hR) ⟨f, by rw [f1.2.2 24 (by decide)]; exact h24⟩ (by omega) (by omega) (by omega)
end PAIR
