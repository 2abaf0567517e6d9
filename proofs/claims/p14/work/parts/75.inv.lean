/-! WHAT A CALL KEEPS of the reference -/
def RI (s : Nat → Int32) (t : Nat → Nat → Int32) : Prop := MI s t ∧ ps (s 2) 3000 ∧ ps (s 21) 80 ∧ ps (s 23) 4095 ∧ (∀ j, j < nv (s 23) → ps (t 11 j) 255) ∧ (∀ j, j < 6 → ps (t 9 j) 9999) ∧ ∀ j, ps (t 1 j) 126
theorem RI_0 {s : Nat → Int32} {t : Nat → Nat → Int32} (v : Int32) (h : RI s t) : RI (upd s 0 v) t := h
theorem RI_new : RI mS0 (fun _ _ => 0) := by
  have z : ∀ n, ps 0 n := fun n => ⟨rfl, Nat.zero_le _⟩
  exact ⟨⟨z _, fun e he => absurd he (Nat.not_lt_zero _)⟩, z _, z _, z _, fun _ _ => z _, fun _ _ => z _, fun _ => z _⟩
theorem MI_congr {s s' : Nat → Int32} {t t' : Nat → Nat → Int32} (hs : s' 10 = s 10) (ht : ∀ j, 3 ≤ j → j ≤ 8 → t' j = t j) (h : MI s t) : MI s' t' := by
  unfold MI at h ⊢
  rw [hs]
  refine ⟨h.1, fun e he => ?_⟩
  rw [ht 3 (by decide) (by decide)]
  exact ⟨(h.2 e he).1, fun k hk => MapI_congr (fun j a b => by rw [ht j (by omega) (by omega)]) (fun f w _ _ => by rw [ht 8 (by decide) (by decide)]) ((h.2 e he).2 k hk)⟩
theorem RI_s1 {q : (Nat → Int32) × (Nat → Nat → Int32)} {x : Int32} (h : RI q.1 q.2) : RI (mS1 q x).1 (mS1 q x).2 := by
  have h2 := mS1_ps (x := x) h.2.1
  obtain ⟨a1, a2, a3, a4, a5, a6, a7⟩ := h
  unfold mS1 at h2 ⊢
  split at h2
  · rename_i hc
    rw [if_pos hc]
    refine ⟨MI_congr (s := q.1) (t := q.2) rfl (fun j ha _ => va_up_ne _ _ (by omega)) a1, h2, a3, a4, ?_, ?_, fun j => ?_⟩
    · dsimp only
      rw [va_up_ne _ _ (by decide)]
      exact a5
    · dsimp only
      rw [va_up_ne _ _ (by decide)]
      exact a6
    · dsimp only
      rw [va_up_self]
      by_cases hj : j = nv (q.1 2)
      · rw [hj, pk_us]
        rcases hc.1 with h | h
        · rw [h]
          exact ps.nI (a := 10) (by decide) (by decide)
        · exact ps_of (by decide) (Int32.le_trans (by decide) h.1) h.2
      · rw [pk_un hj]
        exact a7 j
  · rename_i hc
    rw [if_neg hc]
    exact ⟨a1, a2, a3, a4, a5, a6, a7⟩
theorem RI_sign {s : Nat → Int32} {t : Nat → Nat → Int32} {c : Int32} (h : RI s t) : RI (mSign s t c).1 (mSign s t c).2 := RI_s1 (RI_s1 (RI_s1 (RI_s1 (RI_0 0 h))))
theorem RI_fill {s : Nat → Int32} {t : Nat → Nat → Int32} {map field v : Int32} (h : RI s t) : RI (mFill s t map field v).2.1 (mFill s t map field v).2.2 := by
  unfold mFill
  cases hm : mHandO s t map with
  | none => exact RI_0 0 h
  | some m =>
    dsimp only
    cases hf : mFldO t m field with
    | none => exact RI_0 0 h
    | some f =>
      dsimp only
      obtain ⟨-, hM, -⟩ := mHandO_some h.1 hm
      have hfl := (sr_some hf).2.1
      rw [Nat.zero_add] at hfl
      obtain ⟨a1, a2, a3, a4, a5, a6, a7⟩ := h
      refine ⟨MI_congr (s := s) (t := t) rfl (fun j ha hb => ?_) a1, a2, (hM.2.2.2.2 f hfl).1 3 (by decide), a4, ?_, ?_, ?_⟩
      · rw [va_up_ne _ _ (by omega), va_up_ne _ _ (by omega)]
      · rw [va_up_ne _ _ (by decide), va_up_ne _ _ (by decide)]
        exact a5
      · rw [va_up_ne _ _ (by decide), va_up_ne _ _ (by decide)]
        exact a6
      · rw [va_up_ne _ _ (by decide), va_up_ne _ _ (by decide)]
        exact a7
theorem bTn_b2 {t : Nat → Nat → Int32} {m : Nat} : ∀ {n : Nat}, (∀ f, f < n → FldI t m f) → bTn t m n ≤ 12 + n * 120
  | 0, _ => by show 12 ≤ _; omega
  | n + 1, h => by
    have ih := bTn_b2 (t := t) (m := m) (n := n) (fun f hf => h f (by omega))
    have hf := h n (by omega)
    have p5 := (hf.1 5 (by decide)).2
    have b5 : fB 5 = 20 := rfl
    have h2 := hf.2.1
    have hb := hf.2.2.2.2.2.2.2
    have hm : nv (t 8 (fI m n 5)) * (3 + nv (t 8 (fI m n 3))) ≤ 120 := by
      have e : nv (t 8 (fI m n 5)) * (3 + nv (t 8 (fI m n 3))) = (nv (t 8 (fI m n 3)) + 1) * nv (t 8 (fI m n 5)) + 2 * nv (t 8 (fI m n 5)) := by
        rw [Nat.mul_comm, ← Nat.add_mul]
        congr 1
        omega
      rw [e]
      omega
    rw [bTn, Nat.succ_mul]
    generalize nv (t 8 (fI m n 5)) * (3 + nv (t 8 (fI m n 3))) = z at hm ⊢
    split
    · omega
    · omega
theorem RI_take {s : Nat → Int32} {t : Nat → Nat → Int32} {map x : Int32} (h : RI s t) : RI (mTake s t map x).2.1 (mTake s t map x).2.2 := by
  unfold mTake
  cases hm : mHandO s t map with
  | none => exact RI_0 0 h
  | some m =>
    dsimp only
    obtain ⟨-, hM, -⟩ := mHandO_some h.1 hm
    have hb := bTn_b2 hM.2.2.2.2
    have h30 := hM.2.2.2.1.2
    obtain ⟨a1, a2, a3, a4, a5, a6, a7⟩ := h
    have hI : ∀ c, MI (mTs s map c) (mTt s t map x) := fun c => MI_congr (s := s) (t := t) rfl (fun j ha hb => va_up_ne _ _ (by omega)) a1
    have h9 : ∀ j, j ≠ 11 → mTt s t map x j = t j := fun j hj => va_up_ne _ _ hj
    have hc : mTc s map = 0 ∨ mTc s map = nv (s 23) := by
      unfold mTc
      split
      · exact Or.inr rfl
      · exact Or.inl rfl
    split
    · rename_i hlt
      refine ⟨hI _, a2, a3, ps.nI (a := mTc s map + 1) (by omega) (by decide), fun j hj => ?_, ?_, ?_⟩
      · have hj : j < nv (nI (mTc s map + 1)) := hj
        rw [nv_nI (by omega)] at hj
        have e11 : mTt s t map x 11 = upd (t 11) (mTc s map) (x &&& 255) := va_up_self _ _ _
        show ps (mTt s t map x 11 j) 255
        rw [e11]
        by_cases h : j = mTc s map
        · rw [h, pk_us]
          refine ⟨?_, ?_⟩
          · rw [pk_and x 8 rfl, nv_nI (by have := Nat.mod_lt x.toBitVec.toNat (y := 2 ^ 8) (by decide); omega)]
          · rw [pk_and x 8 rfl, nv_nI (by have := Nat.mod_lt x.toBitVec.toNat (y := 2 ^ 8) (by decide); omega)]
            have := Nat.mod_lt x.toBitVec.toNat (y := 2 ^ 8) (by decide)
            omega
        · rw [pk_un h]
          exact a5 j (by omega)
      · dsimp only
        rw [h9 9 (by decide)]; exact a6
      · dsimp only
        rw [h9 1 (by decide)]; exact a7
    · refine ⟨hI _, a2, a3, ps.nI (a := 0) (by decide) (by decide), fun j hj => absurd hj (Nat.not_lt_zero _), ?_, ?_⟩
      · dsimp only
        rw [h9 9 (by decide)]; exact a6
      · dsimp only
        rw [h9 1 (by decide)]; exact a7
/-- the reading begins -/
theorem DI_0 {s : Nat → Int32} {t : Nat → Nat → Int32} (h : RI s t) (h6 : ¬ s 10 = 6) : DI (mR0 s) (va_up t 3 (upd (t 3) (nv (s 10)) 0)) := by
  obtain ⟨a1, a2, a3, a4, a5, a6, a7⟩ := h
  have hE : nv (s 10) ≤ 5 := by
    have := a1.1.2
    have hne : nv (s 10) ≠ 6 := by
      intro hz
      apply h6
      rw [a1.1.1, hz]
      rfl
    omega
  refine DI_s (s := s) rfl ⟨a1.1.to hE, fun e he => ?_, by rw [va_up_ne _ _ (by decide)]; exact a6⟩
  unfold Dr
  rw [va_up_self]
  by_cases h : e = nv (s 10)
  · rw [h, pk_us]
    exact ⟨ps.nI (a := 0) (by decide) (by decide), fun k hk => absurd hk (Nat.not_lt_zero _)⟩
  · rw [pk_un h]
    obtain ⟨g1, g2⟩ := a1.2 e (by omega)
    exact ⟨g1, fun k hk => MapI_congr (fun j a b => by rw [va_up_ne _ _ (by omega)]) (fun f w _ _ => by rw [va_up_ne _ _ (by decide)]) (g2 k hk)⟩
/-- what a line leaves as it was -/
def Ke (s s' : Nat → Int32) (t t' : Nat → Nat → Int32) : Prop := s' 10 = s 10 ∧ s' 2 = s 2 ∧ s' 21 = s 21 ∧ s' 23 = s 23 ∧ s' 24 = s 24 ∧ s' 25 = s 25 ∧ t' 1 = t 1 ∧ t' 2 = t 2 ∧ t' 10 = t 10 ∧ t' 11 = t 11 ∧ t' 12 = t 12
theorem Ke.rf {s : Nat → Int32} {t : Nat → Nat → Int32} : Ke s s t t := ⟨rfl, rfl, rfl, rfl, rfl, rfl, rfl, rfl, rfl, rfl, rfl⟩
theorem Ke.tr {s s' s'' : Nat → Int32} {t t' t'' : Nat → Nat → Int32} (x : Ke s s' t t') (y : Ke s' s'' t' t'') : Ke s s'' t t'' := by
  obtain ⟨x1, x2, x3, x4, x5, x6, x7, x8, x9, x10, x11⟩ := x
  obtain ⟨y1, y2, y3, y4, y5, y6, y7, y8, y9, y10, y11⟩ := y
  exact ⟨y1.trans x1, y2.trans x2, y3.trans x3, y4.trans x4, y5.trans x5, y6.trans x6, y7.trans x7, y8.trans x8, y9.trans x9, y10.trans x10, y11.trans x11⟩
theorem Ke_t {s : Nat → Int32} {t t' : Nat → Nat → Int32} (h : ∀ j, j ≠ 3 → j ≠ 4 → j ≠ 5 → j ≠ 6 → j ≠ 7 → j ≠ 8 → j ≠ 9 → t' j = t j) : Ke s s t t' :=
  ⟨rfl, rfl, rfl, rfl, rfl, rfl, h 1 (by decide) (by decide) (by decide) (by decide) (by decide) (by decide) (by decide), h 2 (by decide) (by decide) (by decide) (by decide) (by decide) (by decide) (by decide), h 10 (by decide) (by decide) (by decide) (by decide) (by decide) (by decide) (by decide), h 11 (by decide) (by decide) (by decide) (by decide) (by decide) (by decide) (by decide), h 12 (by decide) (by decide) (by decide) (by decide) (by decide) (by decide) (by decide)⟩
theorem Ke_tl {s : Nat → Int32} {t : Nat → Nat → Int32} {m f w : Nat} {v : Int32} : Ke s s t (mTl t m f w v) := Ke_t (fun j _ _ _ _ _ h _ => mTl_ne h)
theorem Ke_lies {s : Nat → Int32} {t : Nat → Nat → Int32} {m : Nat} {but row lo hi : Int32} : Ke s (mLies s t m but row lo hi).2 t t := by
  unfold mLies
  split
  · cases mOvrO t m but row lo hi with
    | none => exact Ke.rf
    | some o => exact ⟨rfl, rfl, rfl, rfl, rfl, rfl, rfl, rfl, rfl, rfl, rfl⟩
  · exact Ke.rf
theorem Ke_u {s : Nat → Int32} {t : Nat → Nat → Int32} {k : Nat} {v : Int32} (hk : k = 11 ∨ k = 13 ∨ k = 14 ∨ k = 16 ∨ k = 17 ∨ k = 18 ∨ k = 19 ∨ k = 27) : Ke s (upd s k v) t t := by
  rcases hk with rfl | rfl | rfl | rfl | rfl | rfl | rfl | rfl <;> exact ⟨rfl, rfl, rfl, rfl, rfl, rfl, rfl, rfl, rfl, rfl, rfl⟩
theorem Ke_line {s : Nat → Int32} {t : Nat → Nat → Int32} {p q : Nat} : Ke s (mLine s t p q).2.1 t (mLine s t p q).2.2 := by
  have hC : Ke s (mCut s t p q).2.1 t (mCut s t p q).2.2 := by
    unfold mCut
    dsimp only
    split
    · exact Ke.rf
    · split
      · exact ⟨rfl, rfl, rfl, rfl, rfl, rfl, rfl, rfl, rfl, rfl, rfl⟩
      · exact Ke.tr (Ke_u (k := 16) (by omega)) (Ke_t (fun j _ _ _ _ _ _ h => va_up_ne _ _ h))
  unfold mLine
  dsimp only
  generalize mCut s t p q = z at hC ⊢
  obtain ⟨w, s1, t1⟩ := z
  dsimp only at hC ⊢
  split
  · exact hC
  split
  · refine hC.tr ?_
    unfold mReadMap
    split
    · split
      · exact Ke.rf
      · split
        · exact Ke.rf
        · exact Ke_t (fun j h3 h4 h5 h6 h7 _ _ => by
            dsimp only
            rw [va_up_ne _ _ h7, va_up_ne _ _ h6, va_up_ne _ _ h5, va_up_ne _ _ h4, va_up_ne _ _ h3])
    · exact Ke.rf
  split
  · refine hC.tr ?_
    have hF : Ke s1 (mReadField s1 t1 (mLast s1 t1)).2.1 t1 (mReadField s1 t1 (mLast s1 t1)).2.2 := by
      unfold mReadField
      cases mLast s1 t1 with
      | none => exact Ke.rf
      | some m =>
        dsimp only
        by_cases hc : t1 9 0 ≤ 99 ∧ (1 ≤ t1 9 1 ∧ t1 9 1 ≤ t1 5 m) ∧ (1 ≤ t1 9 2 ∧ t1 9 2 ≤ t1 6 m) ∧ ((if t1 9 0 ≤ 0 then 0 else 1) ≤ t1 9 3 ∧ t1 9 3 ≤ 80) ∧ t1 9 4 ≤ 15
        · rw [if_pos hc]
          cases mFldO t1 m (t1 9 0) with
          | some o => exact Ke.rf
          | none =>
            dsimp only
            split
            · exact Ke_lies
            · split
              · exact Ke.rf
              · exact Ke.tr (Ke_u (k := 19) (by omega)) (Ke_t (fun j _ _ _ _ h7 h8 _ => by
                  dsimp only
                  rw [mTell_ne _ h8, va_up_ne _ _ h7]))
        · rw [if_neg hc]
          exact Ke.rf
    split
    · exact hF.tr (Ke_u (k := 27) (by omega))
    · exact hF
  cases mLast s1 t1 with
  | none => exact hC
  | some m =>
    dsimp only
    split
    · exact hC
    refine hC.tr ?_
    split
    · unfold mReadTimes
      split
      · split
        · exact Ke.rf
        · dsimp only
          split
          · exact Ke_lies
          · exact Ke.tr (Ke_u (k := 27) (by omega)) Ke_tl
      · exact Ke.rf
    split
    · unfold mReadGroup
      split
      · split
        · exact Ke.rf
        · exact Ke_tl
      · exact Ke.rf
    split
    · unfold mReadPic
      split
      · split
        · exact Ke.rf
        · exact Ke.tr (Ke_u (k := 19) (by omega)) (Ke.tr (Ke.tr Ke_tl Ke_tl) Ke_tl)
      · exact Ke.rf
    split
    · unfold mReadMarks
      split
      · split
        · exact Ke.rf
        · exact Ke_tl
      · exact Ke.rf
    split
    · unfold mReadCur
      split
      · exact Ke.rf
      · exact Ke_tl
    · unfold mReadTxt
      split
      · split
        · exact Ke.tr Ke_tl Ke_tl
        · exact Ke.rf
      · exact Ke.rf
theorem Ke_lp {n : Nat} : ∀ (r p l : Nat) {s : Nat → Int32} {t : Nat → Nat → Int32}, Ke s (mLp n r p l s t).2.1 t (mLp n r p l s t).2.2
  | 0, p, l, s, t => Ke.rf
  | r + 1, p, l, s, t => by
    rw [mLp]
    split
    · exact (Ke_line.tr (Ke_u (k := 11) (by omega))).tr (Ke_lp r _ _)
    · exact Ke.rf
theorem RI_read {s : Nat → Int32} {t : Nat → Nat → Int32} (h : RI s t) : RI (mRead s t).2.1 (mRead s t).2.2 := by
  have z : ps 0 3000 := ⟨rfl, Nat.zero_le _⟩
  unfold mRead
  split
  · obtain ⟨a1, a2, a3, a4, a5, a6, a7⟩ := h
    exact ⟨a1, z, a3, a4, a5, a6, a7⟩
  · rename_i h6
    have hD := DI_lp h.2.1.2 (nv (s 2) + 1) 0 0 (by omega) (DI_0 h h6)
    have hK := Ke_lp (n := nv (s 2)) (nv (s 2) + 1) 0 0 (s := mR0 s) (t := va_up t 3 (upd (t 3) (nv (s 10)) 0))
    generalize mLp (nv (s 2)) (nv (s 2) + 1) 0 0 (mR0 s) (va_up t 3 (upd (t 3) (nv (s 10)) 0)) = y at hD hK ⊢
    obtain ⟨l, s1, t1⟩ := y
    dsimp only at hD hK ⊢
    obtain ⟨a1, a2, a3, a4, a5, a6, a7⟩ := h
    obtain ⟨x1, x2, x3, x4, x5, x6, x7, x8, x9, x10, x11⟩ := hK
    have x2 : s1 2 = 0 := x2
    have x3 : s1 21 = s 21 := x3
    have x4 : s1 23 = s 23 := x4
    rw [va_up_ne _ _ (by decide)] at x7 x10
    obtain ⟨d1, d2, d3⟩ := hD
    unfold mEnd
    split
    · dsimp only
      have e10 : s1 10 + 1 = nI (nv (s1 10) + 1) := by rw [← nI_1, ← d1.1]
      have d15 := d1.2
      refine ⟨⟨?_, fun e he => ?_⟩, ?_, ?_, ?_, ?_, ?_, ?_⟩
      · show ps (s1 10 + 1) 6
        rw [e10]
        exact ps.nI (by omega) (by decide)
      · have he : e < nv (s1 10 + 1) := he
        rw [e10, nv_nI (by omega)] at he
        obtain ⟨g1, g2⟩ := d2 e (by omega)
        rw [va_up_ne _ _ (by decide)]
        exact ⟨g1, fun k hk => MapI_congr (fun j a b => by rw [va_up_ne _ _ (by omega)]) (fun f w _ _ => by rw [va_up_ne _ _ (by decide)]) (g2 k hk)⟩
      · show ps (s1 2) 3000
        rw [x2]; exact z
      · show ps (s1 21) 80
        rw [x3]; exact a3
      · exact ⟨rfl, Nat.zero_le _⟩
      · exact fun j hj => absurd hj (Nat.not_lt_zero _)
      · rw [va_up_ne _ _ (by decide)]
        exact d3
      · rw [va_up_ne _ _ (by decide), x7]
        exact a7
    · dsimp only
      refine ⟨⟨d1.up (by decide), fun e he => d2 e (Nat.le_of_lt he)⟩, ?_, ?_, ?_, ?_, d3, ?_⟩
      · show ps (s1 2) 3000
        rw [x2]; exact z
      · show ps (s1 21) 80
        rw [x3]; exact a3
      · show ps (s1 23) 4095
        rw [x4]; exact a4
      · show ∀ j, j < nv (s1 23) → ps (t1 11 j) 255
        rw [x4, x10]; exact a5
      · rw [x7]; exact a7
/-- a text is read, as a call -/
theorem m_534' (d : Nat) {b : Nat} {h0 h : im_H} {s : Nat → Int32} {t : Nat → Nat → Int32} (hM : MM b h0 h s t) (hR : RI s t) (Q : Option Value → im_H → Prop) (k : ∀ h', MM b h0 h' (mRead s t).2.1 (mRead s t).2.2 → Q (some (.int (mRead s t).1)) h') : gC (gD (d + 6)) 534 [.ref b] h Q :=
  m_534 d hM hR.2.1 hR.1.1 DI (fun _ _ h => DI_J h) (fun _ _ _ _ h _ hq => DI_s rfl (DI_line h hq)) (fun h6 => DI_0 hR h6) Q k
