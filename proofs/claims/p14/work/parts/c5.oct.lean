/-! THE LAW'S OWN octet: it answers, or the class throws and the law catches it -/
def gL (n : Nat) : im_F := fun y vs h => if y = 1924 then ocF n vs h else gD 8 n y vs h
theorem gL.of {y : Nat} {vs : List Value} {h : im_H} {Q : Option Value → im_H → Prop} (hy : ¬ y = 1924) (k : gC (gD 8) y vs h Q) : gC gL y vs h Q := by
  obtain ⟨r, h', hq, n0, hr⟩ := k
  refine ⟨r, h', hq, n0, fun n hn => ?_⟩
  unfold gL
  rw [if_neg hy]
  exact hr n hn
theorem CS_mono {V : Prop} {A : Bk} {h h' : im_H} {s : Nat → Int32} {t : Nat → Nat → Int32} (hI : MI s t) (hk : ∀ (k : Nat) (x : im_C), (k < 11 ∨ 25 ≤ k) → h[k]? = some x → h'[k]? = some x) (hS : CS V A h s t) : CS V A h' s t := by
  obtain ⟨a0, a1, ⟨g2, a2, a2g⟩, a3, ⟨ed, mp, lt, o1, o2, a5, a5v⟩, ⟨⟨b1, b2, w, c, f, q, a6⟩, ⟨g7, a7⟩⟩, ⟨a8, g9, a9, a9j⟩, aI, aE⟩ := hS
  have hx10 : ∃ x, h[10]? = some x := by
    rcases aI with ⟨z, y, -⟩ | ⟨m, y, -⟩
    · exact ⟨_, y⟩
    · exact ⟨_, y⟩
  obtain ⟨x10, hx10⟩ := hx10
  have k10 : h'[10]? = h[10]? := by rw [hx10]; exact hk 10 _ (Or.inl (by decide)) hx10
  exact ⟨hk 0 _ (Or.inl (by decide)) a0, hk 1 _ (Or.inl (by decide)) a1, ⟨g2, hk 2 _ (Or.inl (by decide)) a2, a2g⟩, hk 3 _ (Or.inl (by decide)) a3, ⟨ed, mp, lt, o1, o2, hk 5 _ (Or.inl (by decide)) a5, a5v⟩, ⟨⟨b1, b2, w, c, f, q, hk 6 _ (Or.inl (by decide)) a6⟩, ⟨g7, hk 7 _ (Or.inl (by decide)) a7⟩⟩, ⟨hk 8 _ (Or.inl (by decide)) a8, g9, hk 9 _ (Or.inl (by decide)) a9, a9j⟩, IR_keep k10 rfl rfl rfl rfl rfl rfl rfl rfl (fun _ _ => rfl) aI,
    fun e he => CE_keep (hI.2 e he) (fun k a x hx => hk k x (Or.inr a) hx) rfl (fun _ _ => rfl) (fun _ _ _ _ => rfl) rfl (fun _ _ _ _ _ => rfl) (fun _ _ _ _ _ _ => rfl) (fun _ _ => rfl) (aE e he)⟩
/-- what the law does in its octet -/
def PO (i : Nat) (h : im_H) (a : Int32) : Prop := gC gL 1924 [.ref 0, .int a, .ref 24] h (fun r h1 => (∃ fs, h1[11]? = some (.inr (8, fs))) ∧ ∃ k, r = some (.int k) ∧ gC (gD 8) 544 [.ref 11, .int a] h1 (fun r' h2 => ∃ b, r' = some (.int b) ∧ LJ False (i + 1) h2 ∧ (∃ fs, h2[11]? = some (.inr (8, fs))) ∧ (k = 0 → ∃ f, h2[24]? = some (.inl (2, 1, .inr (.inl f))) ∧ f 0 = b.toInt64)))
theorem PO_of {V : Prop} {i : Nat} {h : im_H} (hJ : LJ V i h) (a : Int32) : PO i h a := by
  obtain ⟨A, s, t, hM, hS, hR, ⟨f0, h24⟩, h25, hc, hz⟩ := hJ
  have p21 := hR.2.2.1
  have h0 := hS.1
  obtain ⟨h8, -⟩ := hS.2.2.2.2.2.2.1
  have ho8 : oc8 h = some (s 21) := by
    unfold oc8
    rw [h0]
    show (match (h[8]? : Option im_C) with
      | some (.inr (1, gs)) => (match (gs[1]? : Option Value) with
        | some (.int len) => some len
        | _ => none)
      | _ => none) = _
    rw [h8]
    rfl
  -- behind the class's call
  have fin : ∀ (h1 : im_H) (k : Int32), k = mThrow s a → CS V A h1 s t → (∀ k, 11 ≤ k → k < 24 → h1[k]? = h[k]?) → h1.length ≤ h.length + 1 → h.length ≤ h1.length → im_sz h1 ≤ im_sz h + 6 → (∃ f, h1[24]? = some (.inl (2, 1, .inr (.inl f)))) → (k = 0 → ∃ f, h1[24]? = some (.inl (2, 1, .inr (.inl f))) ∧ f 0 = (mOctet s t a).toInt64) → (∃ fs, h1[11]? = some (.inr (8, fs))) ∧ ∃ k', (some (.int k) : Option Value) = some (.int k') ∧ gC (gD 8) 544 [.ref 11, .int a] h1 (fun r' h2 => ∃ b, r' = some (.int b) ∧ LJ False (i + 1) h2 ∧ (∃ fs, h2[11]? = some (.inr (8, fs))) ∧ (k' = 0 → ∃ f, h2[24]? = some (.inl (2, 1, .inr (.inl f))) ∧ f 0 = b.toInt64)) := by
    intro h1 k hk hS1 h11 hl1 hl2 hz1 hx24 hk0
    have hM1 : MM 11 h1 h1 s t := MM_cls h11 hM
    refine ⟨⟨_, hM1.2.1⟩, k, rfl, m_544 6 hM1 p21 _ (fun h2 hM2 => ⟨_, rfl, ?_, ⟨_, hM2.2.1⟩, fun hkz => ?_⟩)⟩
    · exact LJ_ref hM2 (CS_00 hS1) (RI_0 _ hR) hx24 (by omega) (by show h1.length + 2 * nv (s 2) ≤ _; omega) (by show im_sz h1 + 40 * nv (s 2) ≤ _; omega)
    · obtain ⟨f, e1, e2⟩ := hk0 hkz
      exact ⟨f, by rw [hM2.1.2.2 24 (by decide)]; exact e1, e2⟩
  unfold PO
  by_cases hin : 0 ≤ a ∧ a < s 21
  · -- it answers
    have hth : 0 ≤ a ∧ a ≤ s 21 - 1 := by
      have h21 := p21.1
      have b21 := p21.2
      have pa : ps a (nv (s 21)) := ps_of (by omega) hin.1 (by rw [← h21]; exact Int32.le_of_lt hin.2)
      have hlt : nv a < nv (s 21) := by
        have := hin.2
        rw [pa.1, h21] at this
        exact (c_lt (by have := pa.2; omega) (by omega)).mp (decide_eq_true this)
      refine ⟨hin.1, ?_⟩
      rw [pa.1, h21, show (1 : Int32) = nI 1 from rfl, pk_sub (by omega)]
      exact of_decide_eq_true ((c_le (by omega) (by omega)).mpr (by omega))
    have hfin := fin (h.set 24 (.inl (2, 1, .inr (.inl (vp_updL f0 0 (mOctet s t a).toInt64))))) 0 (by unfold mThrow; rw [if_pos hth]) (CS_mono hR.1 (fun k x hk hx => by rw [set_ne (by omega)]; exact hx) hS) (fun k _ hk => set_ne (by omega)) (by rw [List.length_set]; omega) (by rw [List.length_set]; exact Nat.le_refl _) (by rw [im_sz_set h24 (by rfl)]; omega) ⟨_, set_at h24⟩ (fun _ => ⟨_, set_at h24, by show (if (0 : Nat) = 0 then _ else _) = _; exact if_pos rfl⟩)
    have hrun : gG tb_T (gD 8) (some .int) cd_oct 0 [some (.ref 0), some (.int a), some (.ref 24), none] [] h (fun r h' => r = some (.int 0) ∧ h' = h.set 24 (.inl (2, 1, .inr (.inl (vp_updL f0 0 (mOctet s t a).toInt64))))) := by
      iterate 4 refine gG.step (cd := cd_oct) rfl (fun _ => rfl) ?_
      refine gG.vir rfl (h0) rfl rfl (Nat.le_of_ble_eq_true rfl) rfl rfl (Nat.le_of_ble_eq_true rfl) ?_
      refine c_456 7 hS hR hth _ ?_
      show gG _ _ _ _ 7 _ [Value.int (mOctet s t a), .int 0, .ref 24] h _
      refine gG.step rfl (fun _ => rfl) ?_
      refine gG.step (pc' := 9) (L' := [some (.ref 0), some (.int a), some (.ref 24), none]) (st' := []) (h' := h.set 24 (.inl (2, 1, .inr (.inl (vp_updL f0 0 (mOctet s t a).toInt64))))) rfl (fun _ => ?_) ?_
      · show im_astl 9 [some (.ref 0), some (.int a), some (.ref 24), none] [.long (mOctet s t a).toInt64, .int 0, .ref 24] h = _
        unfold im_astl
        dsimp only
        rw [h24]
        rfl
      refine gG.goto (tgt := 15) rfl rfl ?_
      refine gG.step rfl (fun _ => rfl) ?_
      exact gG.done rfl (fun _ => rfl) (⟨rfl, rfl⟩)
    obtain ⟨r, h', ⟨rfl, rfl⟩, n0, hr⟩ := hrun
    refine ⟨_, _, hfin, n0, fun n hn => ?_⟩
    unfold gL
    rw [if_pos rfl]
    show (oc8 h).bind _ = _
    rw [ho8]
    show (if 0 ≤ a ∧ a < s 21 then _ else _) = _
    rw [if_pos hin]
    exact hr n n hn hn
  · -- the class throws
    have hth : ¬ (0 ≤ a ∧ a ≤ s 21 - 1) := by
      intro y
      apply hin
      refine ⟨y.1, ?_⟩
      have h21 := p21.1
      have b21 := p21.2
      have y' := y
      rw [h21] at y'
      obtain ⟨j, hj, rfl⟩ := wn_of (by omega) y'
      rw [h21]
      exact of_decide_eq_true ((c_lt (by omega) (by omega)).mpr hj)
    have ap : ∀ k, k < h.length → (h ++ [xCell])[k]? = h[k]? := fun k hk => List.getElem?_append_left hk
    have hfin := fin (h ++ [xCell]) 1 (by unfold mThrow; rw [if_neg hth]) (CS_mono hR.1 (fun k x _ hx => by rw [ap k (List.getElem?_eq_some_iff.mp hx).1]; exact hx) hS) (fun k _ hk => ap k (by omega)) (by rw [List.length_append]; exact Nat.le_refl _) (by rw [List.length_append]; exact Nat.le_add_right _ _) (by rw [im_sz_push]; exact Nat.le_refl _) ⟨f0, by rw [ap 24 (by omega)]; exact h24⟩ (fun z => absurd z (by decide))
    refine ⟨_, _, hfin, 0, fun n hn => ?_⟩
    unfold gL
    rw [if_pos rfl]
    show (oc8 h).bind _ = _
    rw [ho8]
    show (if 0 ≤ a ∧ a < s 21 then _ else _) = _
    rw [if_neg hin]
