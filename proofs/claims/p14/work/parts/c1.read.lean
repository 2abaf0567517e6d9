section READ1
variable {V : Prop} {A : Bk} {h : im_H} {s : Nat → Int32} {t : Nat → Nat → Int32} {Q : Option Value → im_H → Prop}
theorem c_450 (d : Nat) (hV : V → False) (hS : CS V A h s t) (hRI : RI s t) (h25 : 25 ≤ h.length) (k : ∀ A' h', (∀ k, 11 ≤ k → k < 25 → h'[k]? = h[k]?) → h.length ≤ h'.length → h'.length ≤ h.length + 2 + 2 * nv (s 2) → im_sz h' ≤ im_sz h + 10 + 40 * nv (s 2) → CS V A' h' (mRead s t).2.1 (mRead s t).2.2 → Q (some (.int (mRead s t).1)) h') : gC (gD (d + 7)) 450 [.ref 0] h Q := by
  have hI := hRI.1
  have hT := hRI.2.2.2.2.2.2
  obtain ⟨n, hn, e2⟩ := ps_ex hRI.2.1
  have e2n : nv (s 2) = n := by rw [e2, nv_nI (by omega)]
  obtain ⟨E, hE6, e10⟩ := ps_ex hI.1
  have e10n : nv (s 10) = E := by rw [e10, nv_nI (by omega)]
  have hS' := hS
  obtain ⟨a0, a1, ⟨g2, a2, a2g⟩, a3, ⟨ed, mp, lt, o1, o2, a5, -⟩, aL, ⟨a8, g9, a9, a9j⟩, aI, aE⟩ := hS
  obtain ⟨av, hav⟩ : ∃ av, av = (if s 10 = 0 then 3 else A.1 (nv (s 10) - 1)) := ⟨_, rfl⟩
  have a0' : h[0]? = some (.inr (7, [.ref 1, .int (nI n), .ref 2, .int (nI E), .ref av, .ref 5, .int (s 11), .int (s 12), .ref 8, .ref 10])) := by
    rw [a0, hav, ← e2, ← e10]
    rfl
  refine gC.of (q := me_450.2) rfl (Nat.le_of_ble_eq_true rfl) rfl ?_
  refine gG.step (cd := cd_450) rfl (fun _ => rfl) ?_
  refine gG.get rfl (a0') rfl ?_
  refine gG.step (L' := [some (.ref 0), some (.int (nI n))]) rfl (fun _ => rfl) ?_
  iterate 2 refine gG.step rfl (fun _ => rfl) ?_
  refine gG.put (k := 1) rfl a0' (Nat.le_of_ble_eq_true rfl) rfl rfl ?_
  have b0 : (h.set 0 (.inr (7, [.ref 1, .int 0, .ref 2, .int (nI E), .ref av, .ref 5, .int (s 11), .int (s 12), .ref 8, .ref 10])))[0]? = some (.inr (7, [.ref 1, .int 0, .ref 2, .int (nI E), .ref av, .ref 5, .int (s 11), .int (s 12), .ref 8, .ref 10])) := set_at a0'
  have bk : ∀ k, k ≠ 0 → (h.set 0 (.inr (7, [.ref 1, .int 0, .ref 2, .int (nI E), .ref av, .ref 5, .int (s 11), .int (s 12), .ref 8, .ref 10])))[k]? = h[k]? := fun k hk => set_ne hk
  have bl : (h.set 0 (.inr (7, [.ref 1, .int 0, .ref 2, .int (nI E), .ref av, .ref 5, .int (s 11), .int (s 12), .ref 8, .ref 10]))).length = h.length := List.length_set
  have bz : im_sz (h.set 0 (.inr (7, [.ref 1, .int 0, .ref 2, .int (nI E), .ref av, .ref 5, .int (s 11), .int (s 12), .ref 8, .ref 10]))) = im_sz h := by
    refine im_sz_set a0' ?_
    rfl
  show gG _ _ _ _ 10 _ [] (h.set 0 (.inr (7, [.ref 1, .int 0, .ref 2, .int (nI E), .ref av, .ref 5, .int (s 11), .int (s 12), .ref 8, .ref 10]))) Q
  generalize h.set 0 (.inr (7, [.ref 1, .int 0, .ref 2, .int (nI E), .ref av, .ref 5, .int (s 11), .int (s 12), .ref 8, .ref 10])) = H1 at b0 bk bl bz
  refine gG.step rfl (fun _ => rfl) ?_
  refine gG.get rfl (b0) rfl ?_
  refine gG.step rfl (fun _ => rfl) ?_
  obtain ⟨⟨l1, l2, l3, l4, l5, l6, aL6⟩, ⟨lg, aL7⟩⟩ := aL
  have bL : CL H1 := ⟨⟨l1, l2, l3, l4, l5, l6, by rw [bk 6 (by decide)]; exact aL6⟩, ⟨lg, by rw [bk 7 (by decide)]; exact aL7⟩⟩
  have b5 : H1[5]? = some (.inr (0, [.ref 6, ed, mp, lt, .int o1, .int o2])) := by rw [bk 5 (by decide)]; exact a5
  unfold mRead at k
  rw [e2n] at k
  by_cases h6 : E = 6
  · have h6' : s 10 = 6 := by rw [e10, h6]; rfl
    simp only [if_pos h6'] at k
    refine gG.icmp (tgt := 21) rfl rfl (fun c => absurd ((c_lt (b := 6) (by omega) (by decide)).mp c) (by omega)) (fun _ => ?_)
    refine gG.step rfl (fun _ => rfl) ?_
    refine gG.done rfl (fun _ => rfl) (k A H1 (fun k a b => bk k (by omega)) (by omega) (by omega) (by omega) (CS_stay hV hS' hI ?_ (fun k a b x hx => by rw [bk k (by omega)]; exact hx) ⟨_, _, _, _, _, b5⟩ bL rfl rfl rfl rfl rfl rfl rfl rfl rfl (fun _ _ => rfl) (fun _ _ _ _ _ => rfl) (fun _ _ _ _ _ _ => rfl)))
    rw [b0, hav, ← e10]
    rfl
  have h6' : ¬ s 10 = 6 := by
    intro y
    rw [e10] at y
    exact h6 ((nI_eq (b := 6) (by omega) (by decide)).mp y)
  simp only [if_neg h6'] at k
  refine gG.icmp (tgt := 21) rfl rfl (fun _ => ?_) (fun c => absurd ((c_lt (b := 6) (by omega) (by decide)).mpr (by omega)) c)
  have hD0 := DI_0 hRI h6'
  obtain ⟨t0, ht0⟩ : ∃ t0, t0 = va_up t 3 (upd (t 3) (nv (s 10)) 0) := ⟨_, rfl⟩
  rw [← ht0] at k hD0
  have u10 : mR0 s 10 = s 10 := rfl
  have t03 : t0 3 (nv (mR0 s 10)) = 0 := by rw [ht0, va_up_self, u10, pk_us]
  have t0n : ∀ j, j ≠ 3 → t0 j = t j := fun j hj => by rw [ht0, va_up_ne _ _ hj]
  refine gG.step rfl (fun _ => rfl) ?_
  refine gG.get rfl (b0) rfl ?_
  refine gG.vir rfl (b5) rfl rfl (Nat.le_of_ble_eq_true rfl) rfl rfl (Nat.le_of_ble_eq_true rfl) ?_
  refine c_1 (d + 3) (V := V) (A := A) (n := n) (s := mR0 s) (t := t0) (by omega) b5 bL (by rw [bk 1 (by decide), t0n 1 (by decide)]; exact a1) t03 rfl rfl (fun H2 f2 l2' z2 hR2 => ?_)
  have c0 : H2[0]? = some (.inr (7, [.ref 1, .int 0, .ref 2, .int (nI E), .ref av, .ref 5, .int (s 11), .int (s 12), .ref 8, .ref 10])) := by rw [f2 0 (by decide) (by omega)]; exact b0
  show gG _ _ _ _ 28 _ [] H2 Q
  iterate 3 refine gG.step rfl (fun _ => rfl) ?_
  refine gG.vir rfl (c0) rfl rfl (Nat.le_of_ble_eq_true rfl) rfl rfl (Nat.le_of_ble_eq_true rfl) ?_
  refine c_462 d hV hn hD0 hR2 (fun j => by rw [t0n 1 (by decide)]; exact hT j) rfl c0 (fun A' H3 f3 hR3 hA' g0 => ?_)
  have hKe : Ke (mR0 s) (mLp n (n + 1) 0 0 (mR0 s) t0).2.1 t0 (mLp n (n + 1) 0 0 (mR0 s) t0).2.2 := Ke_lp (n + 1) 0 0
  have hKM := KM_lp hn (n + 1) 0 0 (by omega) hD0
  have hge := mLp_ge (n := n) (n + 1) 0 0 (s := mR0 s) (t := t0) z_g5.1
  have hL1 := mLp_l (n := n) (n + 1) 0 0 (s := mR0 s) (t := t0) rfl
  have hL2 := mLp_le (n := n) (n + 1) 0 0 (s := mR0 s) (t := t0)
  have hD3 : DI (mLp n (n + 1) 0 0 (mR0 s) t0).2.1 (mLp n (n + 1) 0 0 (mR0 s) t0).2.2 := DI_lp hn (n + 1) 0 0 (by omega) hD0
  rw [u10] at hKM
  generalize mLp n (n + 1) 0 0 (mR0 s) t0 = Z at hR3 g0 hKe hKM hge hL1 hL2 hD3 k
  obtain ⟨L, s1, t1⟩ := Z
  dsimp only at hR3 g0 hKe hKM hge hL1 hL2 hD3 k
  obtain ⟨q10, q2, q21, q23, q24, q25, r1, r2, r10, r11, r12⟩ := hKe
  obtain ⟨m12, m3, mj, m8⟩ := hKM
  have q10 : s1 10 = s 10 := q10
  have q2 : s1 2 = 0 := q2
  have q21 : s1 21 = s 21 := q21
  have q23 : s1 23 = s 23 := q23
  have q24 : s1 24 = s 24 := q24
  have q25 : s1 25 = s 25 := q25
  have m12 : s1 12 = 0 := m12
  have r1 : t1 1 = t 1 := r1.trans (t0n 1 (by decide))
  have r2 : t1 2 = t 2 := r2.trans (t0n 2 (by decide))
  have r10 : t1 10 = t 10 := r10.trans (t0n 10 (by decide))
  have r11 : t1 11 = t 11 := r11.trans (t0n 11 (by decide))
  have m3 : ∀ e, e ≠ nv (s 10) → t1 3 e = t 3 e := fun e he => by rw [m3 e he, ht0, va_up_self, pk_un he]
  have mj : ∀ j M, 4 ≤ j → j ≤ 7 → M < 8 * nv (s 10) → t1 j M = t j M := fun j M a b c => by rw [mj j M a b c, t0n j (by omega)]
  have m8 : ∀ M f w, M < 8 * nv (s 10) → f < 30 → w < 14 → t1 8 (fI M f w) = t 8 (fI M f w) := fun M f w a b c => by rw [m8 M f w a b c, t0n 8 (by decide)]
  have hNl : H1.length = h.length := bl
  rw [hNl] at hR3 f3 hA' l2'
  have old3 : ∀ k, 1 ≤ k → (k < 5 ∨ 8 ≤ k) → k < h.length → H3[k]? = h[k]? := fun k a b c => by rw [f3.1 k c (by omega), f2 k (by omega) (by omega), bk k (by omega)]
  obtain ⟨p5a, p5b, d5, -⟩ := hR3.2.1
  obtain ⟨⟨w1, w2, w3, w4, w5, w6, d6⟩, ⟨wg, d7⟩⟩ := hR3.2.2.1
  show gG _ _ _ _ 34 _ [Value.int (if s1 11 = 0 then 0 else nI L), Value.ref 0] H3 Q
  refine gG.put (k := 7) rfl g0 (Nat.le_of_ble_eq_true rfl) rfl rfl ?_
  have j0 : (H3.set 0 (.inr (7, [.ref 1, .int 0, .ref 2, .int (nI E), .ref av, .ref 5, .int (s1 11), .int (if s1 11 = 0 then 0 else nI L), .ref 8, .ref 10])))[0]? = some (.inr (7, [.ref 1, .int 0, .ref 2, .int (nI E), .ref av, .ref 5, .int (s1 11), .int (if s1 11 = 0 then 0 else nI L), .ref 8, .ref 10])) := set_at g0
  have jk : ∀ k, k ≠ 0 → (H3.set 0 (.inr (7, [.ref 1, .int 0, .ref 2, .int (nI E), .ref av, .ref 5, .int (s1 11), .int (if s1 11 = 0 then 0 else nI L), .ref 8, .ref 10])))[k]? = H3[k]? := fun k hk => set_ne hk
  have jl : (H3.set 0 (.inr (7, [.ref 1, .int 0, .ref 2, .int (nI E), .ref av, .ref 5, .int (s1 11), .int (if s1 11 = 0 then 0 else nI L), .ref 8, .ref 10]))).length = H3.length := List.length_set
  have jz : im_sz (H3.set 0 (.inr (7, [.ref 1, .int 0, .ref 2, .int (nI E), .ref av, .ref 5, .int (s1 11), .int (if s1 11 = 0 then 0 else nI L), .ref 8, .ref 10]))) = im_sz H3 := by
    refine im_sz_set g0 ?_
    rfl
  have hR4 : DR V A' h.length n (H3.set 0 (.inr (7, [.ref 1, .int 0, .ref 2, .int (nI E), .ref av, .ref 5, .int (s1 11), .int (if s1 11 = 0 then 0 else nI L), .ref 8, .ref 10]))) s1 t1 := DR_0 hR3 (fun k hk => set_ne hk) rfl rfl rfl rfl rfl
  show gG _ _ _ _ 37 _ [] (H3.set 0 (.inr (7, [.ref 1, .int 0, .ref 2, .int (nI E), .ref av, .ref 5, .int (s1 11), .int (if s1 11 = 0 then 0 else nI L), .ref 8, .ref 10]))) Q
  generalize H3.set 0 (.inr (7, [.ref 1, .int 0, .ref 2, .int (nI E), .ref av, .ref 5, .int (s1 11), .int (if s1 11 = 0 then 0 else nI L), .ref 8, .ref 10])) = H4 at j0 jk jl jz hR4
  have old4 : ∀ k, 1 ≤ k → (k < 5 ∨ 8 ≤ k) → k < h.length → H4[k]? = h[k]? := fun k a b c => by rw [jk k (by omega)]; exact old3 k a b c
  have f32 := f3.2.1
  have f33 := f3.2.2.1
  have f34 := f3.2.2.2
  refine gG.step rfl (fun _ => rfl) ?_
  refine gG.get rfl (j0) rfl ?_
  unfold mEnd at k
  dsimp only at k
  by_cases hz : s1 11 = 0
  case neg =>
    have hnle : ¬ s1 11 ≤ 0 := fun y => hz (Int32.le_antisymm y hge)
    simp only [if_neg hnle] at k
    have hL0 := hL1 hz
    have hnl0 : ¬ nI L = 0 := nI_ne0 (by omega) (by omega)
    rw [if_neg hz] at j0 ⊢
    refine gG.ifc (tgt := 51) rfl rfl (fun c => absurd (c_ee.mp c) hnl0) (fun _ => ?_)
    iterate 2 refine gG.step rfl (fun _ => rfl) ?_
    refine gG.get rfl (j0) rfl ?_
    refine gG.step rfl (fun _ => rfl) ?_
    refine gG.done rfl (fun _ => rfl) (k A H4 (fun k a b => old4 k (by omega) (by omega) (by omega)) (by omega) (by omega) (by omega) (CS_stay hV hS' hI ?_ (fun k a b x hx => ?_) ?_ ⟨⟨w1, w2, w3, w4, w5, w6, by rw [jk 6 (by decide)]; exact d6⟩, ⟨wg, by rw [jk 7 (by decide)]; exact d7⟩⟩ q10 q21 q23 q24 q25 r1 r2 r10 r11 m3 mj m8))
    · rw [j0, hav]
      show _ = some (Sum.inr (7, [Value.ref 1, Value.int (s1 2), Value.ref 2, Value.int (s1 10), Value.ref (if s1 10 = 0 then 3 else A.1 (nv (s1 10) - 1)), Value.ref 5, Value.int (s1 11), Value.int (nI L), Value.ref 8, Value.ref 10]))
      rw [q2, q10, ← e10]
    · rw [old4 k a b (List.getElem?_eq_some_iff.mp hx).1]; exact hx
    · exact ⟨_, _, _, _, _, (jk 5 (by decide)).trans d5⟩
  case pos =>
  have hle : s1 11 ≤ 0 := by rw [hz]; exact z_g5.1
  simp only [if_pos hle] at k
  rw [if_pos hz] at j0 ⊢
  have e1n : nv (s1 10) = E := by rw [q10]; exact e10n
  have hAE : A'.1 E = h.length := by rw [hA', u10, e10n]; exact if_pos rfl
  have hAe : ∀ e, e ≠ E → A'.1 e = A.1 e := fun e he => by rw [hA', u10, e10n]; exact if_neg he
  have v5 := hR4.2.1
  obtain ⟨x1, x2, v5, -⟩ := v5
  have hE4 := hR4.2.2.2.2.1
  have hdA := hR4.2.2.2.2.2
  rw [e1n] at hE4 hdA k
  have v5' : H4[5]? = some (.inr (0, [.ref 6, .ref (A'.1 E), va_rf ((mLast s1 t1).map A'.2.1), va_rf ((lastF s1 t1).map fun z => A'.2.2 z.1 z.2), .int x1, .int x2])) := by rw [v5, ← e1n]; rfl
  have hDr : Dr t1 E := by rw [← e1n]; exact hD3.2.1 _ (Nat.le_refl _)
  have x10 : ∃ l, h[10]? = some (.inr (4, l)) ∧ l.length = 8 := by
    rcases aI with ⟨z, y, -⟩ | ⟨m, y, -⟩
    · exact ⟨_, y, rfl⟩
    · exact ⟨_, y, rfl⟩
  obtain ⟨l10, x10, hl10⟩ := x10
  refine gG.ifc (tgt := 51) rfl rfl (fun _ => ?_) (fun c => absurd (by decide) c)
  iterate 2 refine gG.step rfl (fun _ => rfl) ?_
  refine gG.get rfl (j0) rfl ?_
  refine gG.get rfl (v5') rfl ?_
  refine gG.vir rfl (j0) rfl rfl (Nat.le_of_ble_eq_true rfl) rfl rfl (Nat.le_of_ble_eq_true rfl) ?_
  refine c_463 (d + 1) (n := n) (E := E) h25 (by omega) j0 (by rw [old4 2 (by decide) (Or.inl (by decide)) (by omega)]; exact a2) (by rw [old4 10 (by decide) (Or.inr (by decide)) (by omega)]; exact x10) hl10 hDr hdA hE4 (fun H z hl hz' hk i0 i2 i10 hE5 => ?_)
  have oldH : ∀ k, 1 ≤ k → (k < 5 ∨ 8 ≤ k) → k ≠ 2 → k ≠ 10 → k < h.length → H[k]? = h[k]? := fun k a b c c' e => by rw [hk k e (by omega) c c']; exact old4 k a b e
  show gG _ _ _ _ 62 _ [] H Q
  refine gG.step rfl (fun _ => rfl) ?_
  refine gG.get rfl (i0) rfl ?_
  refine gG.get rfl (hE5.1) rfl ?_
  have hs10 : s1 10 + 1 = nI (E + 1) := by rw [q10, e10, nI_1]
  have hs10n : nv (s1 10 + 1) = E + 1 := by rw [hs10, nv_nI (by omega)]
  refine gG.done rfl (fun _ => rfl) (k (bX A A' E) H (fun k a b => oldH k (by omega) (by omega) (by omega) (by omega) (by omega)) (by omega) (by omega) (by omega) ⟨?_, ?_, ⟨va_up g2 E (some (A'.1 E)), i2, ?_⟩, ?_, ⟨_, _, _, _, _, (hk 5 (by omega) (by decide) (by decide) (by decide)).trans v5', fun v => (hV v).elim⟩, ⟨⟨w1, w2, w3, w4, w5, w6, by rw [hk 6 (by omega) (by decide) (by decide) (by decide), jk 6 (by decide)]; exact d6⟩, ⟨wg, by rw [hk 7 (by omega) (by decide) (by decide) (by decide), jk 7 (by decide)]; exact d7⟩⟩, ⟨?_, g9, ?_, ?_⟩, Or.inl ⟨z, i10, rfl⟩, ?_⟩)
  · rw [i0]
    show _ = some (Sum.inr (7, [Value.ref 1, Value.int (s1 2), Value.ref 2, Value.int (s1 10 + 1), Value.ref (if s1 10 + 1 = 0 then 3 else A'.1 (nv (s1 10 + 1) - 1)), Value.ref 5, Value.int (s1 11), Value.int (s1 12), Value.ref 8, Value.ref 10]))
    rw [q2, hs10n, m12, hs10, if_neg (nI_ne0 (by omega) (by omega)), Nat.add_sub_cancel]
  · show H[1]? = some (.inl (1, 3000, .inl (va_up t1 2 _ 1)))
    rw [va_up_ne _ _ (by decide), r1, oldH 1 (by decide) (Or.inl (by decide)) (by decide) (by decide) (by omega)]
    exact a1
  · show ∀ e, e < nv (s1 10 + 1) → _
    rw [hs10n]
    intro e he
    show _ = some (A'.1 e)
    by_cases hee : e = E
    · rw [hee, va_up_self]
    · rw [va_up_ne _ _ hee, hAe e hee]
      exact a2g e (by omega)
  · rw [oldH 3 (by decide) (Or.inl (by decide)) (by decide) (by decide) (by omega)]
    exact a3
  · show H[8]? = some (.inr (1, [.ref 9, .int (s1 21)]))
    rw [q21, oldH 8 (by decide) (Or.inr (by decide)) (by decide) (by decide) (by omega)]
    exact a8
  · rw [oldH 9 (by decide) (Or.inr (by decide)) (by decide) (by decide) (by omega)]
    exact a9
  · show ∀ j, j < nv (s1 21) → g9 j = (va_up t1 2 _ 10 j).toInt8.toInt32
    rw [va_up_ne _ _ (by decide), q21, r10]
    exact a9j
  · show ∀ e, e < nv (s1 10 + 1) → _
    rw [hs10n]
    intro e he
    by_cases hee : e = E
    · rw [hee]
      exact CE_new hDr hn (by rw [hAE]; exact h25) hdA hE5 (fun j hj => va_up_ne _ _ hj) (va_up_self _ _ _)
    · have hlt : e < E := by omega
      have hDe : Dr t e := hI.2 e (by omega)
      have h8k := hDe.1.2
      refine CE_keep hDe (fun k a x hx => ?_) (hAe e hee) (fun k a => if_pos (by omega)) (fun k f a b => if_pos (by omega)) ?_ (fun k j a b c => ?_) (fun k f w a b c => ?_) (fun i hi => ?_) (aE e (by omega))
      · rw [oldH k (by omega) (Or.inr (by omega)) (by omega) (by omega) (List.getElem?_eq_some_iff.mp hx).1]
        exact hx
      · rw [va_up_ne _ _ (by decide)]
        exact m3 e (by omega)
      · rw [va_up_ne _ _ (by omega)]
        exact mj j _ b c (by omega)
      · rw [va_up_ne _ _ (by decide)]
        exact m8 _ f w (by omega) b c
      · rw [va_up_self, mCp_lt (by omega), r2]
end READ1
