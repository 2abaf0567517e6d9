section LINES2
variable {V : Prop} {A : Bk} {N n : Nat} {h : im_H} {s : Nat → Int32} {t : Nat → Nat → Int32} {Q : Option Value → im_H → Prop}
/-- firstFaultyLine -/
theorem c_462 (d : Nat) (hV : V → False) {v1 v3 v4 v6 v7 v8 v9 : Value} (hn : n ≤ 3000) (hD : DI s t) (hR : DR V A N n h s t) (hT : ∀ j, ps (t 1 j) 126) (hs11 : s 11 = 0) (h0 : h[0]? = some (.inr (7, [.ref 1, v1, .ref 2, v3, v4, .ref 5, v6, v7, v8, v9])))
    (k : ∀ A' h', fT N (2 * n) (40 * n) h h' → DR V A' N n h' (mLp n (n + 1) 0 0 s t).2.1 (mLp n (n + 1) 0 0 s t).2.2 → A'.1 = A.1 → h'[0]? = some (.inr (7, [.ref 1, v1, .ref 2, v3, v4, .ref 5, .int ((mLp n (n + 1) 0 0 s t).2.1 11), v7, v8, v9])) → Q (some (.int (if (mLp n (n + 1) 0 0 s t).2.1 11 = 0 then 0 else nI (mLp n (n + 1) 0 0 s t).1))) h') : gC (gD (d + 6)) 462 [.ref 0, .int (nI n)] h Q := by
  refine gC.of (q := me_462.2) rfl (Nat.le_of_ble_eq_true rfl) rfl ?_
  refine gG.step (cd := cd_462) rfl (fun _ => rfl) ?_
  refine gG.step (L' := [some (.ref 0), some (.int (nI n)), some (.int (nI 0)), none, none]) rfl (fun _ => rfl) ?_
  refine gG.step rfl (fun _ => rfl) ?_
  refine gG.step (L' := [some (.ref 0), some (.int (nI n)), some (.int (nI 0)), some (.int (nI 0)), none]) rfl (fun _ => rfl) ?_
  refine gG.step rfl (fun _ => rfl) ?_
  refine gG.step (L' := [some (.ref 0), some (.int (nI n)), some (.int (nI 0)), some (.int (nI 0)), some (.int (nI 0))]) rfl (fun _ => rfl) ?_
  have key : ∀ (r i p l R : Nat) (B : Bk) (H : im_H) (s1 : Nat → Int32) (t1 : Nat → Nat → Int32) (u6 : Value), i + r = n → p ≤ i → l ≤ i → n + 1 ≤ p + R → (∀ j, p ≤ j → j < i → ¬ t1 1 j = 10) → t1 1 = t 1 → B.1 = A.1 → DI s1 t1 → DR V B N n H s1 t1 → s1 11 = 0 → fT N (2 * p) (40 * p) h H → H[0]? = some (.inr (7, [.ref 1, v1, .ref 2, v3, v4, .ref 5, u6, v7, v8, v9])) →
      (∀ A' h', fT N (2 * n) (40 * n) h h' → DR V A' N n h' (mLp n R p l s1 t1).2.1 (mLp n R p l s1 t1).2.2 → A'.1 = A.1 → h'[0]? = some (.inr (7, [.ref 1, v1, .ref 2, v3, v4, .ref 5, .int ((mLp n R p l s1 t1).2.1 11), v7, v8, v9])) → Q (some (.int (if (mLp n R p l s1 t1).2.1 11 = 0 then 0 else nI (mLp n R p l s1 t1).1))) h') →
      gG tb_T (gD (d + 5)) (some .int) cd_462 7 [some (.ref 0), some (.int (nI n)), some (.int (nI l)), some (.int (nI p)), some (.int (nI i))] [] H Q := by
    intro r
    induction r with
    | zero =>
      intro i p l R B H s1 t1 u6 hi hpi hl hR' hno hT1 hB hD1 hR1 h11 hf H0 k
      have hin : i = n := by omega
      subst hin
      have h5 : ∃ fs, H[5]? = some (.inr (0, fs)) := by obtain ⟨o1, o2, z, -⟩ := hR1.2.1; exact ⟨_, z⟩
      obtain ⟨fs5, h5⟩ := h5
      iterate 2 refine gG.step rfl (fun _ => rfl) ?_
      refine gG.icmp (tgt := 72) rfl rfl (fun c => absurd c (fun z => absurd ((c_gt (by omega) (by omega)).mp z) (by omega))) (fun _ => ?_)
      iterate 2 refine gG.step rfl (fun _ => rfl) ?_
      refine gG.icmp (tgt := 31) rfl rfl (fun _ => ?_) (fun c => absurd (c_ee.mpr rfl) c)
      iterate 3 refine gG.step rfl (fun _ => rfl) ?_
      refine gG.get rfl (H0) rfl ?_
      refine gG.step rfl (fun _ => rfl) ?_
      refine gG.get rfl (H0) rfl ?_
      iterate 2 refine gG.step rfl (fun _ => rfl) ?_
      refine gG.vir rfl h5 rfl rfl (Nat.le_of_ble_eq_true rfl) rfl rfl (Nat.le_of_ble_eq_true rfl) ?_
      refine c_2 d hV hD1 hR1 (fun j => by rw [hT1]; exact hT j) hpi hn (Nat.le_refl _) (fun A' H2 hf2 hR2 hA => ?_)
      have H0' : H2[0]? = some (.inr (7, [.ref 1, v1, .ref 2, v3, v4, .ref 5, u6, v7, v8, v9])) := by rw [hf2.1 0 (by have := hR1.1; omega) (Or.inl (by decide))]; exact H0
      have hm : mLp i R p l s1 t1 = (if p < i then (l + 1, upd (mLine s1 t1 p i).2.1 11 (mLine s1 t1 p i).1, (mLine s1 t1 p i).2.2) else (l, s1, t1)) := by
        obtain ⟨R, rfl⟩ : ∃ R', R = R' + 1 := ⟨R - 1, by omega⟩
        rw [mLp]
        by_cases hp : p < i
        · have he : mEol (t1 1) (i - p) p = i := mEol_is hpi (by omega) hno (Or.inl (by omega))
          rw [if_pos ⟨hp, h11⟩, if_pos hp, he]
          cases R with
          | zero => rfl
          | succ R => rw [mLp, if_neg (fun z => absurd z.1 (by omega))]
        · rw [if_neg (fun z => hp z.1), if_neg hp]
      have kk : Q (some (.int (if (mLine s1 t1 p i).1 = 0 then 0 else nI (l + 1)))) (H2.set 0 (.inr (7, [.ref 1, v1, .ref 2, v3, v4, .ref 5, .int (mLine s1 t1 p i).1, v7, v8, v9]))) := by
        by_cases hp : p < i
        · rw [if_pos hp] at hm
          have := k A' (H2.set 0 (.inr (7, [.ref 1, v1, .ref 2, v3, v4, .ref 5, .int (mLine s1 t1 p i).1, v7, v8, v9]))) ((hf.line hf2 (by omega) (by omega)).set H0' rfl (Or.inr (Or.inl rfl))) (by rw [hm]; exact DR_0 hR2 (fun k hk => set_ne hk) rfl rfl rfl rfl rfl) (hA.trans hB) (by rw [set_at H0', hm]; rfl)
          rw [hm] at this
          exact this
        · have hp : p = i := by omega
          subst hp
          rw [if_neg (Nat.lt_irrefl _)] at hm
          rw [mLine_0] at hR2 ⊢
          have := k A' (H2.set 0 (.inr (7, [.ref 1, v1, .ref 2, v3, v4, .ref 5, .int 0, v7, v8, v9]))) ((hf.line hf2 (by omega) (by omega)).set H0' rfl (Or.inr (Or.inl rfl))) (by rw [hm]; exact DR_0 hR2 (fun k hk => set_ne hk) rfl rfl rfl rfl rfl) (hA.trans hB) (by rw [set_at H0', hm]; show _ = some (Sum.inr (7, [_, _, _, _, _, _, Value.int (s1 11), _, _, _])); rw [h11])
          rw [hm] at this
          show Q (some (.int (if (0 : Int32) = 0 then 0 else nI (l + 1)))) _
          rw [if_pos rfl]
          dsimp only at this
          rw [if_pos h11] at this
          exact this
      show gG _ _ _ _ 49 [some (.ref 0), some (.int (nI i)), some (.int (nI l + 1)), some (.int (nI p)), some (.int (nI i))] [Value.int (mLine s1 t1 p i).1, Value.ref 0] H2 Q
      rw [nI_1]
      refine gG.put (k := 6) rfl H0' (Nat.le_of_ble_eq_true rfl) rfl rfl ?_
      refine gG.step rfl (fun _ => rfl) ?_
      refine gG.get rfl (set_at H0') rfl ?_
      by_cases hz : (mLine s1 t1 p i).1 = 0
      · rw [if_pos hz] at kk
        refine gG.ifc (tgt := 61) rfl rfl (fun _ => ?_) (fun c => absurd (c_ee.mpr hz) c)
        iterate 3 refine gG.step rfl (fun _ => rfl) ?_
        refine gG.step (L' := [some (.ref 0), some (.int (nI i)), some (.int (nI (l + 1))), some (.int (nI i + 1)), some (.int (nI i))]) rfl (fun _ => rfl) ?_
        refine gG.step (L' := [some (.ref 0), some (.int (nI i)), some (.int (nI (l + 1))), some (.int (nI i + 1)), some (.int (nI i + 1))]) rfl (fun _ => rfl) ?_
        refine gG.goto (tgt := 7) rfl rfl ?_
        rw [nI_1]
        iterate 2 refine gG.step rfl (fun _ => rfl) ?_
        refine gG.icmp (tgt := 72) rfl rfl (fun _ => ?_) (fun c => absurd ((c_gt (by omega) (by omega)).mpr (by omega)) c)
        refine gG.step rfl (fun _ => rfl) ?_
        exact gG.done rfl (fun _ => rfl) (kk)
      · rw [if_neg hz] at kk
        refine gG.ifc (tgt := 61) rfl rfl (fun c => absurd (c_ee.mp c) hz) (fun _ => ?_)
        refine gG.step rfl (fun _ => rfl) ?_
        exact gG.done rfl (fun _ => rfl) (kk)
    | succ r ih =>
      intro i p l R B H s1 t1 u6 hi hpi hl hR' hno hT1 hB hD1 hR1 h11 hf H0 k
      have h5 : ∃ fs, H[5]? = some (.inr (0, fs)) := by obtain ⟨o1, o2, z, -⟩ := hR1.2.1; exact ⟨_, z⟩
      obtain ⟨fs5, h5⟩ := h5
      have h1 : H[1]? = some (.inl (1, 3000, .inl (t1 1))) := hR1.2.2.2.1
      iterate 2 refine gG.step rfl (fun _ => rfl) ?_
      refine gG.icmp (tgt := 72) rfl rfl (fun c => absurd c (fun z => absurd ((c_gt (by omega) (by omega)).mp z) (by omega))) (fun _ => ?_)
      iterate 2 refine gG.step rfl (fun _ => rfl) ?_
      refine gG.icmp (tgt := 31) rfl rfl (fun c => absurd c (fun z => absurd ((nI_eq (by omega) (by omega)).mp (c_ee.mp z)) (by omega))) (fun _ => ?_)
      refine gG.step rfl (fun _ => rfl) ?_
      refine gG.get rfl (H0) rfl ?_
      refine gG.step rfl (fun _ => rfl) ?_
      refine gG.bald (j := i) rfl h1 rfl (by omega) (by decide) ?_
      refine gG.step rfl (fun _ => rfl) ?_
      by_cases h10 : t1 1 i = 10
      case neg =>
        refine gG.icmp (tgt := 66) rfl rfl (fun _ => ?_) (fun c => absurd (c_ne.mpr h10) c)
        refine gG.step (L' := [some (.ref 0), some (.int (nI n)), some (.int (nI l)), some (.int (nI p)), some (.int (nI i + 1))]) rfl (fun _ => rfl) ?_
        refine gG.goto (tgt := 7) rfl rfl ?_
        rw [nI_1]
        refine ih (i + 1) p l R B H s1 t1 u6 (by omega) (by omega) (by omega) hR' (fun j a b => ?_) hT1 hB hD1 hR1 h11 hf H0 k
        by_cases hj : j = i
        · rw [hj]; exact h10
        · exact hno j a (by omega)
      case pos =>
      refine gG.icmp (tgt := 66) rfl rfl (fun c => absurd h10 (c_ne.mp c)) (fun _ => ?_)
      iterate 3 refine gG.step rfl (fun _ => rfl) ?_
      refine gG.get rfl (H0) rfl ?_
      refine gG.step rfl (fun _ => rfl) ?_
      refine gG.get rfl (H0) rfl ?_
      iterate 2 refine gG.step rfl (fun _ => rfl) ?_
      refine gG.vir rfl h5 rfl rfl (Nat.le_of_ble_eq_true rfl) rfl rfl (Nat.le_of_ble_eq_true rfl) ?_
      refine c_2 d hV hD1 hR1 (fun j => by rw [hT1]; exact hT j) hpi (by omega) (by omega) (fun A' H2 hf2 hR2 hA => ?_)
      have H0' : H2[0]? = some (.inr (7, [.ref 1, v1, .ref 2, v3, v4, .ref 5, u6, v7, v8, v9])) := by rw [hf2.1 0 (by have := hR1.1; omega) (Or.inl (by decide))]; exact H0
      have hD2 : DI (mLine s1 t1 p i).2.1 (mLine s1 t1 p i).2.2 := DI_line hD1 (by omega)
      have hK : Ke s1 (mLine s1 t1 p i).2.1 t1 (mLine s1 t1 p i).2.2 := Ke_line
      obtain ⟨R, rfl⟩ : ∃ R', R = R' + 1 := ⟨R - 1, by omega⟩
      have he : mEol (t1 1) (n - p) p = i := mEol_is hpi (by omega) hno (Or.inr h10)
      rw [mLp, if_pos ⟨by omega, h11⟩, he] at k
      have hRx : DR V A' N n (H2.set 0 (.inr (7, [.ref 1, v1, .ref 2, v3, v4, .ref 5, .int (mLine s1 t1 p i).1, v7, v8, v9]))) (upd (mLine s1 t1 p i).2.1 11 (mLine s1 t1 p i).1) (mLine s1 t1 p i).2.2 := DR_0 hR2 (fun k hk => set_ne hk) rfl rfl rfl rfl rfl
      have hfx : fT N (2 * (i + 1)) (40 * (i + 1)) h (H2.set 0 (.inr (7, [.ref 1, v1, .ref 2, v3, v4, .ref 5, .int (mLine s1 t1 p i).1, v7, v8, v9]))) := (hf.line hf2 (by omega) (by omega)).set H0' rfl (Or.inr (Or.inl rfl))
      show gG _ _ _ _ 49 [some (.ref 0), some (.int (nI n)), some (.int (nI l + 1)), some (.int (nI p)), some (.int (nI i))] [Value.int (mLine s1 t1 p i).1, Value.ref 0] H2 Q
      rw [nI_1]
      refine gG.put (k := 6) rfl H0' (Nat.le_of_ble_eq_true rfl) rfl rfl ?_
      refine gG.step rfl (fun _ => rfl) ?_
      refine gG.get rfl (set_at H0') rfl ?_
      by_cases hz : (mLine s1 t1 p i).1 = 0
      · refine gG.ifc (tgt := 61) rfl rfl (fun _ => ?_) (fun c => absurd (c_ee.mpr hz) c)
        iterate 3 refine gG.step rfl (fun _ => rfl) ?_
        refine gG.step (L' := [some (.ref 0), some (.int (nI n)), some (.int (nI (l + 1))), some (.int (nI i + 1)), some (.int (nI i))]) rfl (fun _ => rfl) ?_
        refine gG.step (L' := [some (.ref 0), some (.int (nI n)), some (.int (nI (l + 1))), some (.int (nI i + 1)), some (.int (nI i + 1))]) rfl (fun _ => rfl) ?_
        refine gG.goto (tgt := 7) rfl rfl ?_
        rw [nI_1]
        exact ih (i + 1) (i + 1) (l + 1) R A' _ (upd (mLine s1 t1 p i).2.1 11 (mLine s1 t1 p i).1) _ _ (by omega) (Nat.le_refl _) (by omega) (by omega) (fun j a b => absurd b (by omega)) (hK.2.2.2.2.2.2.1.trans hT1) (hA.trans hB) (DI_s rfl hD2) hRx hz hfx (set_at H0') k
      · have hm : mLp n R (i + 1) (l + 1) (upd (mLine s1 t1 p i).2.1 11 (mLine s1 t1 p i).1) (mLine s1 t1 p i).2.2 = (l + 1, upd (mLine s1 t1 p i).2.1 11 (mLine s1 t1 p i).1, (mLine s1 t1 p i).2.2) := by
          cases R with
          | zero => rfl
          | succ R => rw [mLp, if_neg (fun z => hz z.2)]
        rw [hm] at k
        have kk := k A' _ (hfx.up (by omega) (by omega)) hRx (hA.trans hB) (set_at H0')
        dsimp only at kk
        rw [if_neg (show ¬ upd (mLine s1 t1 p i).2.1 11 (mLine s1 t1 p i).1 11 = 0 from hz)] at kk
        refine gG.ifc (tgt := 61) rfl rfl (fun c => absurd (c_ee.mp c) hz) (fun _ => ?_)
        refine gG.step rfl (fun _ => rfl) ?_
        exact gG.done rfl (fun _ => rfl) (kk)
  exact key n 0 0 0 (n + 1) A h s t v6 (by omega) (Nat.le_refl _) (Nat.le_refl _) (by omega) (fun j _ b => absurd b (Nat.not_lt_zero _)) rfl rfl hD hR hs11 fT.rf h0 k
end LINES2
