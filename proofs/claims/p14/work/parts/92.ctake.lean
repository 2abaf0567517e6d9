/-- only what came in has changed -/
theorem CS_10 {V : Prop} {A : Bk} {h h' : im_H} {s s' : Nat → Int32} {t t' : Nat → Nat → Int32} (hI : MI s t) (hf : fr 10 11 h h') (hs : ∀ j, j = 2 ∨ j = 10 ∨ j = 11 ∨ j = 12 ∨ j = 13 ∨ j = 14 ∨ j = 21 → s' j = s j) (ht : ∀ j, j ≠ 11 → t' j = t j) (hR : IR A h' s' t') (hS : CS V A h s t) : CS V A h' s' t' := by
  obtain ⟨a0, a1, a2, a3, a5, a6, a8, a10, aE⟩ := hS
  have q : ∀ k, k < 10 → h'[k]? = h[k]? := fun k hk => hf.2.2 k (Or.inl hk)
  have e0 : cT A s' = cT A s := by
    unfold cT
    rw [hs 2 (by decide), hs 10 (by decide), hs 11 (by decide), hs 12 (by decide)]
  unfold CS CD CL CX
  rw [q 0 (by decide), q 1 (by decide), q 2 (by decide), q 3 (by decide), q 5 (by decide), q 6 (by decide), q 7 (by decide), q 8 (by decide), q 9 (by decide), e0, hs 10 (by decide), hs 13 (by decide), hs 14 (by decide), hs 21 (by decide), ht 1 (by decide), ht 10 (by decide)]
  exact ⟨a0, a1, a2, a3, a5, a6, a8, hR, fun e he => CE_keep0 (hI.2 e he) (fun k hk => hf.2.2 k (Or.inr (by omega))) (fun j a b => ht j (by omega)) (aE e he)⟩
theorem iNx_congr {t t' : Nat → Nat → Int32} {m x : Nat} {z : iZ} (h7 : t' 7 = t 7) (h8 : t' 8 = t 8) : iNx t' m x z = iNx t m x z := by
  unfold iNx iEnd
  rw [h8]
  simp only [cFn_congr h7 h8]
section CTAKE
variable {A : Bk} {h0 h : im_H} {s : Nat → Int32} {t : Nat → Nat → Int32} {m : Nat}
/-- next -/
theorem c_258 (d : Nat) {c : Nat} (hI : IC h0 h (cI (.ref (A.2.1 m)) (nI c) (iS t m c))) (hm : CMp A h0 t m (lbS t m) (plS t m) (PT m) (t 2)) (hM : MapI t m) (hc : c < bTn t m (nv (t 7 m))) (hby : ∀ j, j < c → ps (t 11 j) 255) {b : Int32} (hb : b.toInt8.toInt32 = b) {t' : Nat → Nat → Int32} (ht : t' = va_up t 11 (upd (t 11) c (b &&& 255))) (Q : Option Value → im_H → Prop)
    (k : ∀ h', IC h0 h' (cI (.ref (A.2.1 m)) (nI (if c + 1 < bTn t m (nv (t 7 m)) then c + 1 else 0)) (iS t' m (if c + 1 < bTn t m (nv (t 7 m)) then c + 1 else 0))) → Q (some (.int (if c + 1 < bTn t m (nv (t 7 m)) then -1 else mTF t' m (nv (t 7 m)) 0 12 0))) h') : gC (gD (d + 5)) 258 [.ref 10, .int b] h Q := by
  have h7 := hM.2.2.2.1
  obtain ⟨n, hn, e7⟩ := ps_ex h7
  have e7n : nv (t 7 m) = n := by rw [e7, nv_nI (by omega)]
  have hbt := bTn_b2 hM.2.2.2.2
  have elb : lbS t m = nI (bTn t m n) := by
    unfold lbS
    rw [mBT_n hM.2.2.2.2, e7n]
  have q7 : t' 7 = t 7 := by rw [ht]; exact va_up_ne _ _ (by decide)
  have q8 : t' 8 = t 8 := by rw [ht]; exact va_up_ne _ _ (by decide)
  have q11 : t' 11 = upd (t 11) c (b &&& 255) := by rw [ht]; exact va_up_self _ _ _
  have qS : iS t' m c = iS t m c := iS_congr q7 q8 c (fun j hj => by rw [q11, pk_un (by omega)])
  have qS1 : iS t' m (c + 1) = if 12 < c + 1 ∧ (iS t m c).2.1 < n then iNx t m (nv (b &&& 255)) (iS t m c) else iS t m c := by
    rw [iS, qS, q7, q11, pk_us, iNx_congr q7 q8, e7n]
  have hIB := IB_iS hM c hby
  rw [e7n] at k hc hbt
  refine gC.of (q := me_258.2) rfl (Nat.le_of_ble_eq_true rfl) rfl ?_
  refine gG.step (cd := cd_258) rfl (fun _ => rfl) ?_
  refine gG.get rfl (hI.2) rfl ?_
  refine gG.jmp (tgt := 10) rfl (fun _ => rfl) rfl ?_
  iterate 2 refine gG.step rfl (fun _ => rfl) ?_
  refine gG.get rfl (hI.2) rfl ?_
  iterate 2 refine gG.step rfl (fun _ => rfl) ?_
  refine iPut hI rfl (Nat.le_of_ble_eq_true rfl) rfl rfl rfl (fun h hI => ?_)
  have hI : IC h0 h (cI (.ref (A.2.1 m)) (nI c + 1) (iS t m c)) := hI
  rw [nI_1] at hI
  -- behind the field
  have at60 : ∀ h : im_H, IC h0 h (cI (.ref (A.2.1 m)) (nI (c + 1)) (iS t' m (c + 1))) → gG tb_T (gD (d + 4)) (some .int) cd_258 60 [some (.ref 10), some (.int b), none] [] h Q := by
    intro h hI
    have hm' := CMp_fr hI.far hm
    refine gG.step rfl (fun _ => rfl) ?_
    refine gG.get rfl (hI.2) rfl ?_
    refine gG.step rfl (fun _ => rfl) ?_
    refine gG.get rfl (hI.2) rfl ?_
    refine gG.get rfl (hm'.2.1) rfl ?_
    rw [elb]
    by_cases hlt : c + 1 < bTn t m n
    · simp only [if_pos hlt] at k
      refine gG.icmp (tgt := 76) rfl rfl (fun z => absurd ((c_ge (by omega) (by omega)).mp z) (by omega)) (fun _ => ?_)
      refine gG.step rfl (fun _ => rfl) ?_
      exact gG.done rfl (fun _ => rfl) (k h hI)
    · simp only [if_neg hlt] at k
      refine gG.icmp (tgt := 76) rfl rfl (fun _ => ?_) (fun z => absurd ((c_ge (by omega) (by omega)).mpr (by omega)) z)
      refine gG.step rfl (fun _ => rfl) ?_
      refine gG.get rfl (hI.2) rfl ?_
      refine gG.step (L' := [some (.ref 10), some (.int b), some (.int (iS t' m (c + 1)).1)]) rfl (fun _ => rfl) ?_
      iterate 2 refine gG.step rfl (fun _ => rfl) ?_
      refine gG.get rfl (hI.2) rfl ?_
      refine gG.vir rfl (hI.2) rfl rfl (Nat.le_of_ble_eq_true rfl) rfl rfl (Nat.le_of_ble_eq_true rfl) ?_
      refine c_257 (d + 1) rfl hI hm h7 (fun h hI => ?_)
      refine gG.step rfl (fun _ => rfl) ?_
      have eg : (iS t' m (c + 1)).1 = mTF t' m n 0 12 0 := by
        have hM' : MapI t' m := MapI_congr (fun j a b => by rw [ht, va_up_ne _ _ (by omega)]) (fun f w _ _ => by rw [q8]) hM
        have eb : bTn t' m n = bTn t m n := bTn_congr q8 n
        have := iS_good hM' (fun j hj => by
          rw [q7, e7n, eb] at hj
          rw [q11]
          by_cases hjc : j = c
          · obtain ⟨x, hx, ex, -⟩ := byt hb
            rw [hjc, pk_us, ex]
            exact ps.nI hx (by decide)
          · rw [pk_un hjc]
            exact hby j (by omega))
        rw [q7, e7n, eb, show bTn t m n = c + 1 by omega] at this
        exact this
      rw [eg]
      have e0 : iS t' m 0 = iS t m 0 := iS_congr q7 q8 0 (fun j hj => absurd hj (Nat.not_lt_zero _))
      rw [e0] at k
      exact gG.done rfl (fun _ => rfl) (k h hI)
  refine gG.step rfl (fun _ => rfl) ?_
  refine gG.get rfl (hI.2) rfl ?_
  refine gG.step rfl (fun _ => rfl) ?_
  by_cases h12 : 12 < c + 1
  · refine gG.icmp (tgt := 60) rfl rfl (fun z => absurd ((c_le (b := 12) (by omega) (by decide)).mp z) (by omega)) (fun _ => ?_)
    have hm' := CMp_fr hI.far hm
    obtain ⟨ga, hga, hgf⟩ := hm'.2.2.1
    rw [e7n] at hgf
    refine gG.step rfl (fun _ => rfl) ?_
    refine gG.get rfl (hI.2) rfl ?_
    refine gG.step rfl (fun _ => rfl) ?_
    refine gG.get rfl (hI.2) rfl ?_
    refine gG.get rfl (hm'.2.1) rfl ?_
    rw [e7]
    have hix := hIB.1
    rw [e7n] at hix
    by_cases hlt : (iS t m c).2.1 < n
    · refine gG.icmp (tgt := 60) rfl rfl (fun z => absurd ((c_ge (by omega) (by omega)).mp z) (by omega)) (fun _ => ?_)
      iterate 2 refine gG.step rfl (fun _ => rfl) ?_
      refine gG.get rfl (hI.2) rfl ?_
      refine gG.get rfl (hm'.2.1) rfl ?_
      refine gG.step rfl (fun _ => rfl) ?_
      refine gG.get rfl (hI.2) rfl ?_
      refine gG.aal (j := (iS t m c).2.1) rfl hga (hgf _ hlt) rfl (show _ < 30 by omega) (by decide) ?_
      refine gG.step rfl (fun _ => rfl) ?_
      refine gG.vir rfl (hI.2) rfl rfl (Nat.le_of_ble_eq_true rfl) rfl rfl (Nat.le_of_ble_eq_true rfl) ?_
      refine c_260 d hI hm hM (by omega) (by have := hIB.2.1; omega) (by have := hIB.2.2.1; omega) ?_ hb (fun h hI => ?_)
      · have := hIB.2.2.2.2
        by_cases c2 : (iS t m c).2.2.2.1 < 2
        · rw [if_pos c2]
          by_cases z0 : (iS t m c).2.2.2.1 = 0
          · rw [if_pos z0] at this
            omega
          · rw [if_neg z0, if_pos (by omega)] at this
            exact this
        · rw [if_neg c2]
          rw [if_neg (by omega), if_neg (by omega)] at this
          exact this
      rw [if_pos ⟨h12, hlt⟩] at qS1
      rw [← qS1] at hI
      exact at60 h hI
    · refine gG.icmp (tgt := 60) rfl rfl (fun _ => ?_) (fun z => absurd ((c_ge (by omega) (by omega)).mpr (by omega)) z)
      rw [if_neg (fun z => hlt z.2)] at qS1
      rw [← qS1] at hI
      exact at60 h hI
  · refine gG.icmp (tgt := 60) rfl rfl (fun _ => ?_) (fun z => absurd ((c_le (b := 12) (by omega) (by decide)).mpr (by omega)) z)
    rw [if_neg (fun z => h12 z.1)] at qS1
    rw [← qS1] at hI
    exact at60 h hI
/-- take -/
theorem c_457 (d : Nat) {V : Prop} (hS : CS V A h s t) (hR : RI s t) (map : Int32) {b : Int32} (hb : b.toInt8.toInt32 = b) (Q : Option Value → im_H → Prop) (k : ∀ h', fr 10 11 h h' → CS V A h' (mTake s t map b).2.1 (mTake s t map b).2.2 → Q (some (.int (mTake s t map b).1)) h') : gC (gD (d + 6)) 457 [.ref 0, .int map, .int b] h Q := by
  have h0 := hS.1
  have hI := hR.1
  obtain ⟨xa, ha⟩ := hS.hnd hI
  refine gC.of (q := me_457.2) rfl (Nat.le_of_ble_eq_true rfl) rfl ?_
  refine gG.step (cd := cd_457) rfl (fun _ => rfl) ?_
  refine gG.get rfl (h0) rfl ?_
  refine gG.step rfl (fun _ => rfl) ?_
  show gG _ _ _ _ 5 _ [Value.int map, Value.ref (hd A s)] h Q
  refine gG.vir rfl (ha) rfl rfl (Nat.le_of_ble_eq_true rfl) rfl rfl (Nat.le_of_ble_eq_true rfl) ?_
  refine c_hand (d + 4) hS hI map ?_
  show gG _ _ _ _ 8 _ [va_rf ((mHandO s t map).map A.2.1)] h Q
  unfold mTake at k
  cases ho : mHandO s t map with
  | none =>
    rw [ho] at k
    refine gG.step rfl (fun _ => rfl) ?_
    refine gG.step rfl (fun _ => rfl) ?_
    refine gG.step rfl (fun _ => rfl) ?_
    refine gG.step rfl (fun _ => rfl) ?_
    exact gG.done rfl (fun _ => rfl) (k h fr.rf hS)
  | some m =>
    rw [ho] at k
    dsimp only at k
    have hM := (mHandO_some hI ho).2.1
    have h4m := (mHandO_some hI ho).2.2
    have hm := hS.map hI ho
    have h30 := hM.2.2.2.1.2
    have hbt := bTn_b2 hM.2.2.2.2
    have hbg := bTn_ge t m (nv (t 7 m))
    rw [va_some]
    refine gG.step (L' := [some (.ref 0), some (.int map), some (.int b), some (.ref (A.2.1 m))]) rfl (fun _ => rfl) ?_
    refine gG.step rfl (fun _ => rfl) ?_
    refine gG.jmp (tgt := 16) rfl (fun _ => rfl) rfl ?_
    refine gG.step rfl (fun _ => rfl) ?_
    refine gG.get rfl (h0) rfl ?_
    -- once the map is the one that is taken in
    have at48 : ∀ h1 : im_H, IC h h1 (cI (.ref (A.2.1 m)) (nI (mTc s map)) (iS t m (mTc s map))) → mTc s map ≤ nv (s 23) → mTc s map < bTn t m (nv (t 7 m)) → gG tb_T (gD (d + 5)) (some .int) cd_457 48 [some (.ref 0), some (.int map), some (.int b), some (.ref (A.2.1 m))] [] h1 Q := by
      intro h1 hI1 hc hcb
      have h01 : h1[0]? = some (.inr (7, cT A s)) := by rw [hI1.1.2.2 0 (Or.inl (by decide))]; exact h0
      refine gG.step rfl (fun _ => rfl) ?_
      refine gG.get rfl (h01) rfl ?_
      refine gG.step rfl (fun _ => rfl) ?_
      refine gG.vir rfl (hI1.2) rfl rfl (Nat.le_of_ble_eq_true rfl) rfl rfl (Nat.le_of_ble_eq_true rfl) ?_
      refine c_258 d hI1 hm hM hcb (fun j hj => hR.2.2.2.2.1 j (by omega)) hb (t' := mTt s t map b) rfl _ (fun h2 hI2 => ?_)
      have hs : ∀ c j, j = 2 ∨ j = 10 ∨ j = 11 ∨ j = 12 ∨ j = 13 ∨ j = 14 ∨ j = 21 → mTs s map c j = s j := by
        intro c j hj
        rcases hj with rfl | rfl | rfl | rfl | rfl | rfl | rfl <;> rfl
      have ht : ∀ j, j ≠ 11 → mTt s t map b j = t j := fun j hj => va_up_ne _ _ hj
      have hir : ∀ c, c < bTn t m (nv (t 7 m)) → IC h h2 (cI (.ref (A.2.1 m)) (nI c) (iS (mTt s t map b) m c)) → IR A h2 (mTs s map (nI c)) (mTt s t map b) := by
        intro c hc hI2
        refine Or.inr ⟨m, ?_, rfl, ?_, ?_⟩
        · show h2[10]? = some (.inr (4, cI (.ref (A.2.1 m)) (nI c) (iS (mTt s t map b) m (nv (nI c)))))
          rw [nv_nI (by omega)]
          exact hI2.2
        · show mHandO (mTs s map (nI c)) (mTt s t map b) map = some m
          rw [mHandO_congr (s := s) (s' := mTs s map (nI c)) (t := t) rfl (ht 3 (by decide)) (ht 4 (by decide))]
          exact ho
        · show nv (nI c) < _
          rw [nv_nI (by omega), bTn_congr (ht 8 (by decide)), ht 7 (by decide)]
          exact hc
      by_cases hlt : mTc s map + 1 < bTn t m (nv (t 7 m))
      · rw [if_pos hlt] at k hI2 ⊢
        exact gG.done rfl (fun _ => rfl) (k h2 hI2.1 (CS_10 hI hI2.1 (hs _) ht (hir _ hlt hI2) hS))
      · rw [if_neg hlt] at k hI2 ⊢
        exact gG.done rfl (fun _ => rfl) (k h2 hI2.1 (CS_10 hI hI2.1 (hs _) ht (hir 0 (by omega) hI2) hS))
    -- the map is another
    have at40 : ∀ l : List Value, l.length = 8 → h[10]? = some (.inr (4, l)) → mTc s map = 0 → gG tb_T (gD (d + 5)) (some .int) cd_457 40 [some (.ref 0), some (.int map), some (.int b), some (.ref (A.2.1 m))] [] h Q := by
      intro l hl h10 hc0
      refine gG.step rfl (fun _ => rfl) ?_
      refine gG.get rfl (h0) rfl ?_
      refine gG.step rfl (fun _ => rfl) ?_
      refine gG.vir rfl (h10) rfl rfl (Nat.le_of_ble_eq_true rfl) rfl rfl (Nat.le_of_ble_eq_true rfl) ?_
      refine c_257 (d + 2) hl ⟨fr.rf, h10⟩ hm hM.2.2.2.1 (fun h1 hI1 => ?_)
      refine at48 h1 ?_ (by omega) (by omega)
      rw [hc0]
      exact hI1
    rcases hS.2.2.2.2.2.2.2.1 with ⟨z, h10, e23⟩ | ⟨m0, h10, h25, ho0, hl0⟩
    · refine gG.get rfl (h10) rfl ?_
      refine gG.jmp (tgt := 40) rfl (fun _ => rfl) rfl ?_
      refine at40 _ rfl h10 ?_
      unfold mTc
      rw [e23]
      split <;> rfl
    · have hm0 := hS.map hI ho0
      have h40 := (mHandO_some hI ho0).2.2
      refine gG.get rfl (h10) rfl ?_
      refine gG.step rfl (fun _ => rfl) ?_
      refine gG.step rfl (fun _ => rfl) ?_
      refine gG.get rfl (h0) rfl ?_
      refine gG.get rfl (h10) rfl ?_
      refine gG.get rfl (hm0.2.1) rfl ?_
      refine gG.step rfl (fun _ => rfl) ?_
      rw [h40]
      by_cases he : s 24 = map
      · refine gG.icmp (tgt := 48) rfl rfl (fun _ => ?_) (fun z => absurd (c_ee.mpr he) z)
        have hmm : m0 = m := by
          rw [he] at ho0
          rw [ho0] at ho
          exact Option.some.inj ho
        subst hmm
        have hc : mTc s map = nv (s 23) := by
          unfold mTc
          rw [if_pos ⟨he, h25⟩]
        refine at48 h ⟨fr.rf, ?_⟩ (by omega) (by omega)
        rw [hc, ← hR.2.2.2.1.1]
        exact h10
      · refine gG.icmp (tgt := 48) rfl rfl (fun z => absurd (c_ee.mp z) he) (fun _ => ?_)
        refine at40 _ rfl h10 ?_
        unfold mTc
        rw [if_neg (fun z => he z.1)]
end CTAKE
