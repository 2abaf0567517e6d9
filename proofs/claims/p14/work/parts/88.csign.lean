/-- only the object's own cell and its text have changed -/
theorem CS_01 {V : Prop} {A : Bk} {h h' : im_H} {s s' : Nat → Int32} {t t' : Nat → Nat → Int32} (hI : MI s t) (hk : ∀ k, 2 ≤ k → h'[k]? = h[k]?) (h0 : h'[0]? = some (.inr (7, cT A s'))) (h1 : h'[1]? = some (.inl (1, 3000, .inl (t' 1)))) (hs : ∀ j, j = 10 ∨ j = 13 ∨ j = 14 ∨ j = 21 ∨ j = 23 ∨ j = 24 ∨ j = 25 → s' j = s j) (ht : ∀ j, j ≠ 1 → t' j = t j) (hS : CS V A h s t) : CS V A h' s' t' := by
  obtain ⟨a0, a1, a2, a3, a5, a6, a8, a10, aE⟩ := hS
  unfold CS CD CL CX
  rw [hk 2 (by decide), hk 3 (by decide), hk 5 (by decide), hk 6 (by decide), hk 7 (by decide), hk 8 (by decide), hk 9 (by decide), hs 10 (by decide), hs 13 (by decide), hs 14 (by decide), hs 21 (by decide), ht 10 (by decide)]
  exact ⟨h0, h1, a2, a3, a5, a6, a8, IR_keep (hk 10 (by decide)) (hs 23 (by decide)) (hs 24 (by decide)) (hs 25 (by decide)) (hs 10 (by decide)) (ht 3 (by decide)) (ht 4 (by decide)) (ht 7 (by decide)) (ht 8 (by decide)) (fun j _ => by rw [ht 11 (by decide)]) a10, fun e he => CE_keep0 (hI.2 e he) (fun k hk' => hk k (by omega)) (fun j a b => ht j (by omega)) (aE e he)⟩
theorem set_ne {h : im_H} {o k : Nat} {x : im_C} (hne : k ≠ o) : (h.set o x)[k]? = h[k]? := List.getElem?_set_ne (fun z => hne z.symm)
theorem set_at {h : im_H} {o : Nat} {x y : im_C} (hx : h[o]? = some y) : (h.set o x)[o]? = some x := List.getElem?_set_self (List.getElem?_eq_some_iff.mp hx).1
theorem c_449 (d : Nat) {V : Prop} {A : Bk} {h : im_H} {s : Nat → Int32} {t : Nat → Nat → Int32} (hS : CS V A h s t) (hR : RI s t) (c : Int32) (Q : Option Value → im_H → Prop) (k : ∀ h', fr 0 2 h h' → CS V A h' (mSign s t c).1 (mSign s t c).2 → Q none h') : gC (gD (d + 2)) 449 [.ref 0, .int c] h Q := by
  refine gC.of (q := me_449.2) rfl (Nat.le_of_ble_eq_true rfl) rfl ?_
  refine gG.step (cd := cd_449) rfl (fun _ => rfl) ?_
  refine gG.step (L' := [some (.ref 0), some (.int c), some (.int 24), none, none]) rfl (fun _ => rfl) ?_
  have one : ∀ (kk x : Int32) (h1 : im_H) (x3 x4 : Option Value) (q : (Nat → Int32) × (Nat → Nat → Int32)), 0 ≤ kk → (c >>> (kk &&& 31)) &&& 255 = x → fr 0 2 h h1 → RI q.1 q.2 → CS V A h1 q.1 q.2 → (∀ (h2 : im_H) (x3 x4 : Option Value), fr 0 2 h h2 → CS V A h2 (mS1 q x).1 (mS1 q x).2 → gG tb_T (gD (d + 1)) none cd_449 3 [some (.ref 0), some (.int c), some (.int (kk + Int32.ofInt (-8))), x3, x4] [] h2 Q) → gG tb_T (gD (d + 1)) none cd_449 3 [some (.ref 0), some (.int c), some (.int kk), x3, x4] [] h1 Q := by
    intro kk x h1 x3 x4 q hkk hx hf hR hS nx
    have h0 := hS.1
    refine gG.step rfl (fun _ => rfl) ?_
    refine gG.ifc (tgt := 81) rfl rfl (fun z => absurd (of_decide_eq_true z) (Int32.not_lt.mpr hkk)) (fun _ => ?_)
    iterate 2 refine gG.step rfl (fun _ => rfl) ?_
    refine gG.step rfl (fun _ => rfl) ?_
    refine gG.step rfl (fun _ => rfl) ?_
    refine gG.step rfl (fun _ => rfl) ?_
    show gG _ _ _ _ 14 _ [Value.int ((c >>> (kk &&& 31)) &&& 255)] h1 Q
    rw [hx]
    refine gG.step (L' := [some (.ref 0), some (.int c), some (.int kk), some (.int x), x4]) rfl (fun _ => rfl) ?_
    iterate 2 refine gG.step rfl (fun _ => rfl) ?_
    -- with the answer of the sieve
    have at37 : ∀ bb : Bool, (bb = true ↔ (x = 10 ∨ (32 ≤ x ∧ x ≤ 126))) → gG tb_T (gD (d + 1)) none cd_449 37 [some (.ref 0), some (.int c), some (.int kk), some (.int x), x4] [.int (bI bb)] h1 Q := by
      intro bb hbb
      refine gG.step (L' := [some (.ref 0), some (.int c), some (.int kk), some (.int x), some (.int (bI bb))]) rfl (fun _ => rfl) ?_
      refine gG.step rfl (fun _ => rfl) ?_
      have skip : ¬ ((x = 10 ∨ (32 ≤ x ∧ x ≤ 126)) ∧ q.1 2 < 3000) → gG tb_T (gD (d + 1)) none cd_449 75 [some (.ref 0), some (.int c), some (.int kk), some (.int x), some (.int (bI bb))] [] h1 Q := by
        intro hne
        have e : mS1 q x = q := by unfold mS1; rw [if_neg hne]
        rw [e] at nx
        refine gG.step rfl (fun _ => rfl) ?_
        refine gG.goto (tgt := 3) rfl rfl ?_
        exact nx h1 _ _ hf hS
      cases bb with
      | false =>
        refine gG.ifc (tgt := 75) rfl rfl (fun _ => ?_) (fun z => absurd (by decide) z)
        exact skip (fun z => by have := hbb.mpr z.1; cases this)
      | true =>
        refine gG.ifc (tgt := 75) rfl rfl (fun z => absurd z (by decide)) (fun _ => ?_)
        refine gG.step rfl (fun _ => rfl) ?_
        refine gG.get rfl (h0) rfl ?_
        refine gG.step rfl (fun _ => rfl) ?_
        refine gG.icmp (tgt := 75) rfl rfl (fun z => ?_) (fun z => ?_)
        · exact skip (fun y => Int32.not_lt.mpr (show (3000 : Int32) ≤ q.1 2 from of_decide_eq_true z) y.2)
        · have hlt : q.1 2 < 3000 := Int32.not_le.mp (fun y => z (decide_eq_true y))
          have hs := hbb.mp rfl
          have e : mS1 q x = (upd q.1 2 (q.1 2 + 1), va_up q.2 1 (upd (q.2 1) (nv (q.1 2)) x)) := by unfold mS1; rw [if_pos ⟨hs, hlt⟩]
          rw [e] at nx
          dsimp only at nx
          have p2 := hR.2.1
          obtain ⟨n, hn, e2⟩ := ps_ex p2
          have en : nv (q.1 2) = n := by rw [e2, nv_nI (by omega)]
          have hn3 : n < 3000 := by
            rw [e2] at hlt
            exact (nI_ltI (b := 3000) (by omega) (by decide)).mp hlt
          have px : ps x 126 := by
            rcases hs with h | h
            · rw [h]
              exact ps.nI (a := 10) (by decide) (by decide)
            · exact ps_of (by decide) (Int32.le_trans (by decide) h.1) h.2
          rw [en] at nx
          refine gG.step rfl (fun _ => rfl) ?_
          refine gG.get rfl (h0) rfl ?_
          refine gG.step rfl (fun _ => rfl) ?_
          refine gG.get rfl (h0) rfl ?_
          iterate 2 refine gG.step rfl (fun _ => rfl) ?_
          show gG _ _ _ _ 64 _ [Value.int x.toInt8.toInt32, Value.int (q.1 2), Value.ref 1] h1 Q
          refine gG.bast (j := n) rfl hS.2.1 e2 hn3 (by decide) ?_
          rw [i8_id2 px]
          have g0 : (h1.set 1 (.inl (1, 3000, .inl (upd (q.2 1) n x))))[0]? = some (.inr (7, cT A q.1)) := by
            rw [set_ne (by decide)]
            exact h0
          iterate 2 refine gG.step rfl (fun _ => rfl) ?_
          refine gG.get rfl (g0) rfl ?_
          iterate 2 refine gG.step rfl (fun _ => rfl) ?_
          refine gG.put (k := 1) rfl g0 (Nat.le_of_ble_eq_true rfl) rfl rfl ?_
          refine gG.step rfl (fun _ => rfl) ?_
          refine gG.goto (tgt := 3) rfl rfl ?_
          refine nx _ _ _ ?_ ?_
          · refine (hf.set hS.2.1 ?_ (by decide) (by decide)).set g0 ?_ (by decide) (by decide)
            · rfl
            · rfl
          · refine CS_01 (h := h1) (s := q.1) (t := q.2) hR.1 (fun k hk => ?_) ?_ ?_ (fun j hj => ?_) (fun j hj => va_up_ne _ _ hj) hS
            · rw [set_ne (by omega), set_ne (by omega)]
            · rw [set_at g0]
              rfl
            · rw [set_ne (by decide), set_at hS.2.1, va_up_self]
            · exact pk_un (by omega)
    refine gG.icmp (tgt := 32) rfl rfl (fun z => ?_) (fun z => ?_)
    · have hx10 : x = 10 := c_ee.mp z
      refine gG.step rfl (fun _ => rfl) ?_
      refine gG.goto (tgt := 37) rfl rfl ?_
      exact at37 true ⟨fun _ => Or.inl hx10, fun _ => rfl⟩
    · have hx10 : ¬ x = 10 := fun y => z (c_ee.mpr y)
      iterate 3 refine gG.step rfl (fun _ => rfl) ?_
      refine gG.inv rfl (fun _ => rfl) (Nat.le_of_ble_eq_true rfl) rfl rfl (Nat.le_of_ble_eq_true rfl) ?_
      refine c_466 d _ _ _ _ _ ?_
      show gG _ _ _ _ 29 _ [Value.int (bI (decide (32 ≤ x ∧ x ≤ 126)))] h1 Q
      by_cases hw : 32 ≤ x ∧ x ≤ 126
      · rw [decide_eq_true hw]
        refine gG.ifc (tgt := 36) rfl rfl (fun z => absurd z (by decide)) (fun _ => ?_)
        refine gG.step rfl (fun _ => rfl) ?_
        refine gG.goto (tgt := 37) rfl rfl ?_
        exact at37 true ⟨fun _ => Or.inr hw, fun _ => rfl⟩
      · rw [decide_eq_false hw]
        refine gG.ifc (tgt := 36) rfl rfl (fun _ => ?_) (fun z => absurd (by decide) z)
        refine gG.step rfl (fun _ => rfl) ?_
        exact at37 false ⟨(fun z => nomatch z), fun z => z.elim (fun y => absurd y hx10) (fun y => absurd y hw)⟩
  have hS0 : CS V A h (upd s 0 0) t := hS
  have hR0 : RI (upd s 0 0) t := RI_0 0 hR
  refine one 24 _ h none none (upd s 0 0, t) (by decide) (sh24 c) fr.rf hR0 hS0 (fun h x3 x4 hf hS => ?_)
  have hR1 := RI_s1 (x := mSh c 24) (q := (upd s 0 0, t)) hR0
  refine one 16 _ h _ _ _ (by decide) (sh16 c) hf hR1 hS (fun h x3 x4 hf hS => ?_)
  have hR2 := RI_s1 (x := mSh c 16) hR1
  refine one 8 _ h _ _ _ (by decide) (sh8 c) hf hR2 hS (fun h x3 x4 hf hS => ?_)
  have hR3 := RI_s1 (x := mSh c 8) hR2
  refine one 0 _ h _ _ _ (by decide) (sh0 c) hf hR3 hS (fun h x3 x4 hf hS => ?_)
  refine gG.step rfl (fun _ => rfl) ?_
  refine gG.ifc (tgt := 81) rfl rfl (fun _ => ?_) (fun z => absurd (by decide) z)
  exact gG.done rfl (fun _ => rfl) (k h hf hS)
