theorem DI_map {s : Nat → Int32} {t : Nat → Nat → Int32} (hD : DI s t) : DI s (mReadMap s t).2 := by
  unfold mReadMap
  split
  · rename_i hc
    cases mMapO t (nv (s 10)) (t 9 0) with
    | some o => exact hD
    | none =>
      dsimp only
      split
      · exact hD
      · rename_i h8
        obtain ⟨hE, hDr, hN⟩ := hD
        obtain ⟨c1, c2⟩ := hDr _ (Nat.le_refl _)
        obtain ⟨n, hn⟩ : ∃ n, n = nv (t 3 (nv (s 10))) := ⟨_, rfl⟩
        obtain ⟨E, hEE⟩ : ∃ E, E = nv (s 10) := ⟨_, rfl⟩
        rw [← hEE] at h8 hDr c1 c2 hn ⊢
        have hn8 : n ≤ 8 := by rw [hn]; exact c1.2
        have hne : n ≠ 8 := by
          intro hz
          apply h8
          rw [c1.1, ← hn, hz]
          rfl
        rw [← hn]
        have e3 : t 3 E + 1 = nI (n + 1) := by rw [c1.1, ← hn, nI_1]
        rw [e3]
        dsimp only
        refine ⟨hE, fun e he => ?_, ?_⟩
        · rw [← hEE] at he
          unfold Dr
          rw [va_up_ne _ _ (by decide), va_up_ne _ _ (by decide), va_up_ne _ _ (by decide), va_up_ne _ _ (by decide), va_up_self]
          have keep : ∀ M, M ≠ 8 * E + n → MapI t M → MapI (va_up (va_up (va_up (va_up (va_up t 3 (upd (t 3) E (nI (n + 1)))) 4 (upd (t 4) (8 * E + n) (t 9 0))) 5 (upd (t 5) (8 * E + n) (t 9 1))) 6 (upd (t 6) (8 * E + n) (t 9 2))) 7 (upd (t 7) (8 * E + n) 0)) M := by
            intro M hM hI
            refine MapI_congr (fun j ha hb => ?_) (fun f w _ _ => ?_) hI
            · have : j = 4 ∨ j = 5 ∨ j = 6 ∨ j = 7 := by omega
              rcases this with rfl | rfl | rfl | rfl
              · rw [va_up_ne _ _ (by decide), va_up_ne _ _ (by decide), va_up_ne _ _ (by decide), va_up_self, pk_un hM]
              · rw [va_up_ne _ _ (by decide), va_up_ne _ _ (by decide), va_up_self, pk_un hM]
              · rw [va_up_ne _ _ (by decide), va_up_self, pk_un hM]
              · rw [va_up_self, pk_un hM]
            · rw [va_up_ne _ _ (by decide), va_up_ne _ _ (by decide), va_up_ne _ _ (by decide), va_up_ne _ _ (by decide), va_up_ne _ _ (by decide)]
          by_cases hee : e = E
          · subst hee
            rw [pk_us]
            refine ⟨ps.nI (by omega) (by decide), fun k hk => ?_⟩
            rw [nv_nI (by omega)] at hk
            by_cases hkn : k = n
            · subst hkn
              refine ⟨?_, ?_, ?_, ?_, fun f hf => ?_⟩
              · rw [va_up_ne _ _ (by decide), va_up_ne _ _ (by decide), va_up_ne _ _ (by decide), va_up_self, pk_us]
                exact ps_of (by decide) (Int32.le_trans (by decide) hc.1.1) hc.1.2
              · rw [va_up_ne _ _ (by decide), va_up_ne _ _ (by decide), va_up_self, pk_us]
                exact ps_of (by decide) (Int32.le_trans (by decide) hc.2.1.1) hc.2.1.2
              · rw [va_up_ne _ _ (by decide), va_up_self, pk_us]
                exact ps_of (by decide) (Int32.le_trans (by decide) hc.2.2.1) hc.2.2.2
              · rw [va_up_self, pk_us]
                exact ps.nI (a := 0) (by decide) (by decide)
              · rw [va_up_self, pk_us] at hf
                exact absurd hf (Nat.not_lt_zero _)
            · exact keep _ (by omega) (c2 k (by omega))
          · rw [pk_un hee]
            obtain ⟨g1, g2⟩ := hDr e he
            exact ⟨g1, fun k hk => keep _ (by have := g1.2; omega) (g2 k hk)⟩
        · rw [va_up_ne _ _ (by decide), va_up_ne _ _ (by decide), va_up_ne _ _ (by decide), va_up_ne _ _ (by decide), va_up_ne _ _ (by decide)]
          exact hN
  · exact hD
theorem mTell_8 {t : Nat → Nat → Int32} {m f w : Nat} : ∀ (n : Nat), mTell t m f n 8 (fI m f w) = if w < n then mNew (t 9) w else t 8 (fI m f w)
  | 0 => rfl
  | n + 1 => by
    rw [mTell, va_up_self]
    by_cases h : w = n
    · subst h
      rw [pk_us, if_pos (by omega)]
    · rw [pk_un (by unfold fI; omega), mTell_8 n]
      by_cases h2 : w < n
      · rw [if_pos h2, if_pos (by omega)]
      · rw [if_neg h2, if_neg (by omega)]
theorem mTell_8ne {t : Nat → Nat → Int32} {m f m' f' w' : Nat} (hf : f < 30) (hf' : f' < 30) (hw' : w' < 14) (h : ¬ (m' = m ∧ f' = f)) : ∀ (n : Nat), n ≤ 14 → mTell t m f n 8 (fI m' f' w') = t 8 (fI m' f' w')
  | 0, _ => rfl
  | n + 1, hn => by
    rw [mTell, va_up_self, pk_un, mTell_8ne hf hf' hw' h n (by omega)]
    intro hz
    obtain ⟨h1, h2, -⟩ := fI_inj hf' hw' hf (by omega) hz
    exact h ⟨h1, h2⟩
theorem lie_bd {a b c k : Nat} (ha : 1 ≤ a) (ha2 : a ≤ 9999) (hb : b ≤ 9999) (hc : c ≤ 9999) (hk : k ≤ 80) (h : nI a + (nI b + 1) * nI c - 1 ≤ nI k) : a + (b + 1) * c ≤ k + 1 := by
  have hbc : (b + 1) * c ≤ 10000 * 9999 := Nat.mul_le_mul (by omega) hc
  rw [nI_1, pk_mul, nI_add, show (1 : Int32) = nI 1 from rfl, pk_sub (by omega), nI_leI (by omega) (by omega)] at h
  omega
theorem mLies_bd {s : Nat → Int32} {t : Nat → Nat → Int32} {m : Nat} {but row lo hi : Int32} (h : ¬ (mLies s t m but row lo hi).1 = true) : hi - 1 ≤ t 6 m := by
  unfold mLies at h
  split at h
  · assumption
  · exact absurd rfl h
theorem mLies_10 {s : Nat → Int32} {t : Nat → Nat → Int32} {m : Nat} {but row lo hi : Int32} : (mLies s t m but row lo hi).2 10 = s 10 := by
  unfold mLies
  split
  · cases mOvrO t m but row lo hi with
    | none => rfl
    | some o => rfl
  · rfl
theorem DI_field {s : Nat → Int32} {t : Nat → Nat → Int32} {mo : Option Nat} (hD : DI s t) (hm : ∀ m, mo = some m → MapI t m) : DI (mReadField s t mo).2.1 (mReadField s t mo).2.2 := by
  unfold mReadField
  cases mo with
  | none => exact hD
  | some m =>
    dsimp only
    have hM := hm m rfl
    by_cases hc : t 9 0 ≤ 99 ∧ (1 ≤ t 9 1 ∧ t 9 1 ≤ t 5 m) ∧ (1 ≤ t 9 2 ∧ t 9 2 ≤ t 6 m) ∧ ((if t 9 0 ≤ 0 then 0 else 1) ≤ t 9 3 ∧ t 9 3 ≤ 80) ∧ t 9 4 ≤ 15
    · rw [if_pos hc]
      obtain ⟨k0, ⟨k11, k12⟩, ⟨k21, k22⟩, ⟨k31, k32⟩, k4⟩ := hc
      cases mFldO t m (t 9 0) with
      | some o => exact hD
      | none =>
        dsimp only
        split
        · exact DI_s mLies_10 hD
        · rename_i hl
          split
          · exact hD
          · rename_i h30
            dsimp only
            refine DI_s (s := s) rfl ?_
            have hN := hD.2.2
            have h7 := hM.2.2.2.1
            obtain ⟨n, hn⟩ : ∃ n, n = nv (t 7 m) := ⟨_, rfl⟩
            have hn30 : n ≤ 30 := by rw [hn]; exact h7.2
            have hne : n ≠ 30 := by
              intro hz
              apply h30
              rw [h7.1, ← hn, hz]
              rfl
            have e7 : t 7 m + 1 = nI (n + 1) := by rw [h7.1, ← hn, nI_1]
            rw [← hn, e7]
            have hle := mLies_bd hl
            refine DI_fld (m := m) (f := n) hD (fun j h7 h8 => ?_) (fun M hM => ?_) ?_ (fun g hg hgn => ?_) (fun m' f' w' hf' hw' hne' => ?_) ?_
            · rw [mTell_ne _ h8, va_up_ne _ _ h7]
            · rw [mTell_ne _ (by decide), va_up_self, pk_un hM]
            · rw [mTell_ne _ (by decide), va_up_self, pk_us]
              exact ps.nI (by omega) (by decide)
            · rw [mTell_ne _ (by decide), va_up_self, pk_us, nv_nI (by omega)] at hg
              omega
            · rw [mTell_8ne (by omega) hf' hw' hne' 14 (by decide), va_up_ne _ _ (by decide)]
            · refine FldI_FF.mpr (FF_congr (g := mNew (t 9)) (fun w hw => ?_) ?_)
              · rw [mTell_8, if_pos hw, va_up_ne _ _ (by decide)]
              · obtain ⟨a0, b0, e0⟩ := ps_ex (hN 0 (by decide))
                obtain ⟨a1, b1, e1⟩ := ps_ex (hN 1 (by decide))
                obtain ⟨a2, b2, e2⟩ := ps_ex (hN 2 (by decide))
                obtain ⟨a3, b3, e3⟩ := ps_ex (hN 3 (by decide))
                obtain ⟨a4, b4, e4⟩ := ps_ex (hN 4 (by decide))
                obtain ⟨c5, d5, f5⟩ := ps_ex hM.2.1
                obtain ⟨c6, d6, f6⟩ := ps_ex hM.2.2.1
                rw [e0] at k0 k31
                rw [e1, f5] at k12
                rw [e1] at k11
                rw [e2, f6] at k22
                rw [e2] at k21
                rw [e3] at k31 k32
                rw [e4] at k4
                rw [e2, e3, f6] at hle
                have hle := lie_bd (c := 1) ((nI_leI (a := 1) (by decide) (by omega)).mp k21) b2 b3 (by decide) d6 hle
                have k0 := (nI_leI (b := 99) (by omega) (by decide)).mp k0
                have k12 := (nI_leI (by omega) (by omega)).mp k12
                have k21 := (nI_leI (a := 1) (by decide) (by omega)).mp k21
                have k22 := (nI_leI (by omega) (by omega)).mp k22
                have k32 := (nI_leI (b := 80) (by omega) (by decide)).mp k32
                have k4 := (nI_leI (b := 15) (by omega) (by decide)).mp k4
                have E : ∀ w, w < 14 → mNew (t 9) w = nI (if w = 0 then a0 else if w = 1 then a1 else if w = 2 then a2 else if w = 3 then a3 else if w = 4 then a4 else if w = 5 then 1 else 0) := by
                  intro w hw
                  unfold mNew
                  have : w = 0 ∨ w = 1 ∨ w = 2 ∨ w = 3 ∨ w = 4 ∨ w = 5 ∨ (5 < w) := by omega
                  rcases this with rfl | rfl | rfl | rfl | rfl | rfl | h
                  · exact e0
                  · exact e1
                  · exact e2
                  · exact e3
                  · exact e4
                  · rfl
                  · rw [if_neg (by omega), if_neg (by omega), if_neg (by omega), if_neg (by omega), if_neg (by omega), if_neg (by omega), if_neg (by omega), if_neg (by omega)]
                    rfl
                refine FF_congr E ?_
                have V : ∀ n, n ≤ 9999 → nv (nI n) = n := fun n h => nv_nI (by omega)
                refine ⟨fun w hw => ?_, ?_, ?_, ?_, ?_, ?_, ?_, ?_⟩
                · have : w = 0 ∨ w = 1 ∨ w = 2 ∨ w = 3 ∨ w = 4 ∨ w = 5 ∨ (5 < w) := by omega
                  rcases this with rfl | rfl | rfl | rfl | rfl | rfl | h
                  · exact ps.nI (show a0 ≤ 99 by omega) (by decide)
                  · exact ps.nI (show a1 ≤ 24 by omega) (by decide)
                  · exact ps.nI (show a2 ≤ 80 by omega) (by decide)
                  · exact ps.nI (show a3 ≤ 80 by omega) (by decide)
                  · exact ps.nI (show a4 ≤ 15 by omega) (by decide)
                  · exact ps.nI (show 1 ≤ 20 by decide) (by decide)
                  · dsimp only
                    rw [if_neg (by omega), if_neg (by omega), if_neg (by omega), if_neg (by omega), if_neg (by omega), if_neg (by omega)]
                    exact ⟨rfl, Nat.zero_le _⟩
                · show 1 ≤ nv (nI a2)
                  rw [V _ b2]; exact k21
                · show 1 ≤ nv (nI 1)
                  decide
                · show 0 < nv (nI a0) → 1 ≤ nv (nI a3)
                  rw [V _ b0, V _ b3]
                  intro h0
                  rw [if_neg (nI_nle h0 (by omega))] at k31
                  exact (nI_leI (a := 1) (by decide) (by omega)).mp k31
                · exact Or.inl rfl
                · show nv (nI 0) + nv (nI 0) ≤ 18000
                  decide
                · exact Nat.zero_le _
                · show nv (nI a2) + (nv (nI a3) + 1) * nv (nI 1) ≤ 81
                  rw [V _ b2, V _ b3, V 1 (by decide)]
                  omega
    · rw [if_neg hc]
      exact hD
