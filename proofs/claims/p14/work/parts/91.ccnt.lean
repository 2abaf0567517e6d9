/-! byte by byte it comes to the same -/
section CCNT
variable {t : Nat → Nat → Int32} {m : Nat}
/-- within a time: after j of its bytes -/
def iM (t : Nat → Nat → Int32) (g : Int32) (f ti a j : Nat) (z : iZ) : Prop := z.1 = g ∧ z.2.1 = f ∧ z.2.2.1 = ti ∧ z.2.2.2.1 = j ∧ z.2.2.2.2.1 = (if j = 0 then 0 else if j = 1 then nv (t 11 a) else nv (t 11 a) * 256 + nv (t 11 (a + 1))) ∧ (z.2.2.2.2.2 = true ↔ ∀ i, i + 3 < j → i < nv (t 11 a) * 256 + nv (t 11 (a + 1)) → 48 ≤ nv (t 11 (a + 3 + i)) ∧ nv (t 11 (a + 3 + i)) ≤ 57)
theorem iM_step {g : Int32} {f ti a j : Nat} (ha : 12 ≤ a) (hf : f < nv (t 7 m)) (hj : j + 1 < 3 + nv (t 8 (fI m f 3))) (h : iM t g f ti a j (iS t m (a + j))) : iM t g f ti a (j + 1) (iS t m (a + (j + 1))) := by
  rw [show a + (j + 1) = a + j + 1 from rfl, iS]
  generalize iS t m (a + j) = z at h ⊢
  obtain ⟨go, f', ti', co, sd, dg⟩ := z
  obtain ⟨rfl, rfl, rfl, rfl, h5, h6⟩ := h
  dsimp only at h5 h6 hf hj ⊢
  rw [if_pos ⟨by omega, hf⟩]
  unfold iNx
  dsimp only
  rw [if_neg (by omega)]
  refine ⟨rfl, rfl, rfl, rfl, ?_, ?_⟩
  · show (if co < 2 then sd * 256 + nv (t 11 (a + co)) else sd) = _
    by_cases c0 : co = 0
    · subst c0
      have h5 : sd = 0 := h5
      show sd * 256 + nv (t 11 (a + 0)) = nv (t 11 a)
      rw [h5, Nat.zero_mul, Nat.zero_add, Nat.add_zero]
    · by_cases c1 : co = 1
      · subst c1
        have h5 : sd = nv (t 11 a) := h5
        show sd * 256 + nv (t 11 (a + 1)) = nv (t 11 a) * 256 + nv (t 11 (a + 1))
        rw [h5]
      · rw [if_neg c0, if_neg c1] at h5
        rw [if_neg (show ¬ co < 2 by omega), if_neg (show ¬ co + 1 = 0 by omega), if_neg (show ¬ co + 1 = 1 by omega)]
        exact h5
  · show (if co < 2 then dg else if 3 ≤ co ∧ co - 3 < sd ∧ ¬ (48 ≤ nv (t 11 (a + co)) ∧ nv (t 11 (a + co)) ≤ 57) then false else dg) = true ↔ _
    by_cases c2 : co < 2
    · rw [if_pos c2, h6]
      exact ⟨fun _ i hi => absurd hi (by omega), fun _ i hi => absurd hi (by omega)⟩
    · rw [if_neg c2]
      have h5' : sd = nv (t 11 a) * 256 + nv (t 11 (a + 1)) := by
        rw [if_neg (show ¬ co = 0 by omega), if_neg (show ¬ co = 1 by omega)] at h5
        exact h5
      by_cases hb : 3 ≤ co ∧ co - 3 < sd ∧ ¬ (48 ≤ nv (t 11 (a + co)) ∧ nv (t 11 (a + co)) ≤ 57)
      · rw [if_pos hb]
        refine ⟨(fun z => nomatch z), fun z => ?_⟩
        exfalso
        apply hb.2.2
        have := z (co - 3) (by omega) (by omega)
        rw [show a + 3 + (co - 3) = a + co by omega] at this
        exact this
      · rw [if_neg hb, h6]
        constructor
        · intro z i hi hs
          by_cases hlt : i + 3 < co
          · exact z i hlt hs
          · have hic : i + 3 = co := by omega
            rw [show a + 3 + i = a + co by omega]
            apply Decidable.byContradiction
            intro hn
            exact hb ⟨by omega, by omega, hn⟩
        · intro z i hi hs
          exact z i (by omega) hs
theorem iM_at {g : Int32} {f ti a : Nat} (ha : 12 ≤ a) (hf : f < nv (t 7 m)) (h0 : iS t m a = (g, f, ti, 0, 0, true)) : ∀ j, j < 3 + nv (t 8 (fI m f 3)) → iM t g f ti a j (iS t m (a + j))
  | 0, _ => by
    rw [Nat.add_zero, h0]
    exact ⟨rfl, rfl, rfl, rfl, rfl, fun _ i hi => absurd hi (by omega), fun _ => rfl⟩
  | j + 1, hj => iM_step ha hf hj (iM_at ha hf h0 j (by omega))
/-- a time is good -/
theorem iOk_good {f a : Nat} (hF : FldI t m f) (hb : ∀ j, j < 3 + nv (t 8 (fI m f 3)) → ps (t 11 (a + j)) 255) {dg : Bool} (hd : dg = true ↔ ∀ i, i + 3 < 3 + nv (t 8 (fI m f 3)) → i < nv (t 11 a) * 256 + nv (t 11 (a + 1)) → 48 ≤ nv (t 11 (a + 3 + i)) ∧ nv (t 11 (a + 3 + i)) ≤ 57) : iOk t m f (nv (t 11 a) * 256 + nv (t 11 (a + 1))) dg = mGood t m f a := by
  have b0 : ps (t 11 a) 255 := by have := hb 0 (by omega); rwa [Nat.add_zero] at this
  have b1 := hb 1 (by omega)
  have b02 := b0.2
  have b12 := b1.2
  obtain ⟨l, hl, el⟩ := ps_ex (hF.1 3 (by decide))
  have hl : l ≤ 80 := hl
  have p8 : ps (t 8 (fI m f 8)) 15 := (hF.1 8 (by decide)).up (by decide)
  have p4 : ps (t 8 (fI m f 4)) 15 := hF.1 4 (by decide)
  have eN : mGoodN t a = nI (nv (t 11 a) * 256 + nv (t 11 (a + 1))) := by
    unfold mGoodN
    rw [b0.1, b1.1, nv_nI (by omega), nv_nI (by omega), show (256 : Int32) = nI 256 from rfl, pk_mul, nI_add, Nat.mul_comm]
  generalize hsd : nv (t 11 a) * 256 + nv (t 11 (a + 1)) = sd at eN hd ⊢
  have hsdb : sd ≤ 65535 := by omega
  have enl : nv (t 8 (fI m f 3)) = l := by rw [el, nv_nI (by omega)]
  rw [enl] at hd hb
  unfold iOk mGood
  rw [eN, el, nv_nI (by omega)]
  by_cases c1 : l < sd
  · rw [if_pos ((nI_ltI (by omega) (by omega)).mpr c1), decide_eq_false (fun z => absurd z.1 (by omega))]
  rw [if_neg (fun z => c1 ((nI_ltI (by omega) (by omega)).mp z))]
  have z0 : nI sd = 0 ↔ sd = 0 := nI_eq (b := 0) (by omega) (by decide)
  have z0' : nI sd ≤ 0 ↔ sd = 0 := by
    rw [show (0 : Int32) = nI 0 from rfl, nI_leI (by omega) (by decide)]
    omega
  by_cases c2 : ¬ t 8 (fI m f 8) &&& 1 ≤ 0 ∧ nI sd = 0
  · rw [if_pos c2, decide_eq_false]
    intro z
    rcases z.2.1 with y | y
    · have := z0.mp c2.2
      omega
    · exact c2.1 ((and1 p8).mpr y)
  rw [if_neg c2]
  by_cases c3 : ¬ t 8 (fI m f 8) &&& 2 ≤ 0 ∧ ¬ nI sd ≤ 0 ∧ nI sd < nI l
  · rw [if_pos c3, decide_eq_false]
    intro z
    have h3 := (nI_ltI (by omega) (by omega)).mp c3.2.2
    have h2 : ¬ sd = 0 := fun y => c3.2.1 (z0'.mpr y)
    rcases z.2.2.1 with y | y | y
    · exact h2 y
    · omega
    · exact c3.1 ((and2 p8).mpr y)
  rw [if_neg c3]
  have k1 : sd ≤ l := by omega
  have k2 : 0 < sd ∨ t 8 (fI m f 8) &&& 1 = 0 := by
    by_cases h : sd = 0
    · right
      apply Decidable.byContradiction
      intro hn
      exact c2 ⟨fun y => hn ((and1 p8).mp y), z0.mpr h⟩
    · left; omega
  have k3 : sd = 0 ∨ sd = l ∨ t 8 (fI m f 8) &&& 2 = 0 := by
    by_cases h : sd = 0
    · exact Or.inl h
    · by_cases h' : sd = l
      · exact Or.inr (Or.inl h')
      · right; right
        apply Decidable.byContradiction
        intro hn
        exact c3 ⟨fun y => hn ((and2 p8).mp y), fun y => h (z0'.mp y), (nI_ltI (by omega) (by omega)).mpr (by omega)⟩
  by_cases c4 : t 8 (fI m f 4) &&& 2 ≤ 0
  · rw [if_pos c4, decide_eq_true ⟨k1, k2, k3, Or.inr ((and2 p4).mp c4)⟩]
  · rw [if_neg c4, nv_nI (by omega)]
    have h4 : ¬ t 8 (fI m f 4) &&& 2 = 0 := fun y => c4 ((and2 p4).mpr y)
    have dig : ∀ i, i < sd → (mDigP t a i = false ↔ 48 ≤ nv (t 11 (a + 3 + i)) ∧ nv (t 11 (a + 3 + i)) ≤ 57) := by
      intro i hi
      have hbi := hb (3 + i) (by omega)
      rw [show a + (3 + i) = a + 3 + i by omega] at hbi
      have hbi2 := hbi.2
      unfold mDigP
      rw [hbi.1, nv_nI (by omega)]
      generalize nv (t 11 (a + 3 + i)) = y at hbi2
      have : (48 ≤ nI y ∧ nI y ≤ 57) ↔ (48 ≤ y ∧ y ≤ 57) := by
        rw [show (48 : Int32) = nI 48 from rfl, show (57 : Int32) = nI 57 from rfl, nI_leI (by decide) (by omega), nI_leI (by omega) (by decide)]
      rw [← this]
      by_cases hc : 48 ≤ nI y ∧ nI y ≤ 57
      · rw [decide_eq_true hc]
        exact ⟨fun _ => hc, fun _ => rfl⟩
      · rw [decide_eq_false hc]
        exact ⟨(fun z => nomatch z), fun z => absurd z hc⟩
    cases hs : sr (mDigP t a) sd 0 with
    | none =>
      have hall := sr_none hs
      have : dg = true := hd.mpr (fun i _ hi => (dig i hi).mp (hall i (Nat.zero_le _) (by omega)))
      rw [decide_eq_true ⟨k1, k2, k3, Or.inl this⟩]
      rfl
    | some i =>
      obtain ⟨-, h2, h3⟩ := sr_some hs
      have : ¬ dg = true := by
        intro z
        have := (dig i (by omega)).mpr (hd.mp z i (by omega) (by omega))
        rw [this] at h3
        cases h3
      rw [decide_eq_false (fun z => z.2.2.2.elim this h4)]
      rfl
/-- a whole time -/
theorem iM_time {g : Int32} {f ti a : Nat} (ha : 12 ≤ a) (hf : f < nv (t 7 m)) (hF : FldI t m f) (hb : ∀ j, j < 3 + nv (t 8 (fI m f 3)) → ps (t 11 (a + j)) 255) (h0 : iS t m a = (g, f, ti, 0, 0, true)) : iS t m (a + (3 + nv (t 8 (fI m f 3)))) = ((if mGood t m f a = true then g + 1 else g), (if ti + 1 = nv (t 8 (fI m f 5)) then cFn t m (f + 1) else f), (if ti + 1 = nv (t 8 (fI m f 5)) then 0 else ti + 1), 0, 0, true) := by
  have h2 := iM_at ha hf h0 (2 + nv (t 8 (fI m f 3))) (by omega)
  rw [show a + (3 + nv (t 8 (fI m f 3))) = a + (2 + nv (t 8 (fI m f 3))) + 1 by omega, iS]
  generalize hl : nv (t 8 (fI m f 3)) = l at *
  generalize hc : a + (2 + l) = c at *
  generalize iS t m c = z at h2 ⊢
  obtain ⟨go, f', ti', co, sd, dg⟩ := z
  obtain ⟨rfl, rfl, rfl, rfl, h5, h6⟩ := h2
  dsimp only at h5 h6 ⊢
  rw [if_pos ⟨by omega, hf⟩]
  unfold iNx
  dsimp only
  rw [hl, if_pos (by omega)]
  have hsd : sd = nv (t 11 a) * 256 + nv (t 11 (a + 1)) := by
    rw [if_neg (by omega)] at h5
    by_cases c1 : 2 + l = 1
    · omega
    · rw [if_neg c1] at h5
      exact h5
  rw [if_neg (show ¬ 2 + l < 2 by omega), if_neg (show ¬ 2 + l < 2 by omega)]
  have key : ∀ dg2 : Bool, (dg2 = true ↔ ∀ i, i + 3 < 3 + l → i < nv (t 11 a) * 256 + nv (t 11 (a + 1)) → 48 ≤ nv (t 11 (a + 3 + i)) ∧ nv (t 11 (a + 3 + i)) ≤ 57) → iEnd t m (go, f', ti', 2 + l + 1, sd, dg2) = ((if mGood t m f' a = true then go + 1 else go), (if ti' + 1 = nv (t 8 (fI m f' 5)) then cFn t m (f' + 1) else f'), (if ti' + 1 = nv (t 8 (fI m f' 5)) then 0 else ti' + 1), 0, 0, true) := by
    intro dg2 hd2
    have ho := iOk_good (dg := dg2) hF (by rw [hl]; exact hb) (by rw [hl]; exact hd2)
    rw [← ho, ← hsd]
    rfl
  apply key
  rw [← hsd]
  by_cases hbad : 3 ≤ 2 + l ∧ 2 + l - 3 < sd ∧ ¬ (48 ≤ nv (t 11 c) ∧ nv (t 11 c) ≤ 57)
  · rw [if_pos hbad]
    refine ⟨(fun z => nomatch z), fun z => ?_⟩
    exfalso
    apply hbad.2.2
    have := z (2 + l - 3) (by omega) (by omega)
    rw [show a + 3 + (2 + l - 3) = c by omega] at this
    exact this
  · rw [if_neg hbad, h6, ← hsd]
    constructor
    · intro z i hi hs
      by_cases hlt : i + 3 < 2 + l
      · exact z i hlt hs
      · rw [show a + 3 + i = c by omega]
        apply Decidable.byContradiction
        intro hn
        exact hbad ⟨by omega, by omega, hn⟩
    · intro z i hi hs
      exact z i (by omega) hs
theorem iM_times {f : Nat} (hf : f < nv (t 7 m)) (hF : FldI t m f) : ∀ (r ti a : Nat) (g : Int32), ti + (r + 1) = nv (t 8 (fI m f 5)) → 12 ≤ a → (∀ j, j < (r + 1) * (3 + nv (t 8 (fI m f 3))) → ps (t 11 (a + j)) 255) → iS t m a = (g, f, ti, 0, 0, true) → iS t m (a + (r + 1) * (3 + nv (t 8 (fI m f 3)))) = (mTK t m f (r + 1) a g, cFn t m (f + 1), 0, 0, 0, true)
  | 0, ti, a, g, ht, ha, hb, h0 => by
    have := iM_time ha hf hF (fun j hj => hb j (by omega)) h0
    rw [Nat.zero_add, Nat.one_mul, this, if_pos (show ti + 1 = nv (t 8 (fI m f 5)) by omega), if_pos (show ti + 1 = nv (t 8 (fI m f 5)) by omega)]
    rfl
  | r + 1, ti, a, g, ht, ha, hb, h0 => by
    have e : (r + 1 + 1) * (3 + nv (t 8 (fI m f 3))) = (3 + nv (t 8 (fI m f 3))) + (r + 1) * (3 + nv (t 8 (fI m f 3))) := by rw [Nat.succ_mul (r + 1), Nat.add_comm]
    have h1 := iM_time ha hf hF (fun j hj => hb j (by rw [e]; omega)) h0
    rw [if_neg (show ¬ ti + 1 = nv (t 8 (fI m f 5)) by omega), if_neg (show ¬ ti + 1 = nv (t 8 (fI m f 5)) by omega)] at h1
    have ih := iM_times hf hF r (ti + 1) (a + (3 + nv (t 8 (fI m f 3)))) _ (by omega) (by omega) (fun j hj => by
      have := hb (3 + nv (t 8 (fI m f 3)) + j) (by rw [e]; omega)
      rw [show a + (3 + nv (t 8 (fI m f 3)) + j) = a + (3 + nv (t 8 (fI m f 3))) + j by omega] at this
      exact this) h1
    rw [e, ← Nat.add_assoc, ih, show a + (3 + nv (t 8 (fI m f 3))) = a + 3 + nv (t 8 (fI m f 3)) by omega]
    rfl
theorem cFn_named {f : Nat} (hf : f < nv (t 7 m)) (h0 : ¬ t 8 (fI m f 0) = 0) : cFn t m f = f := by
  unfold cFn
  rw [show nv (t 7 m) - f = (nv (t 7 m) - f - 1) + 1 by omega, sr, if_pos (by rw [decide_eq_false h0]; rfl)]
theorem cFn_label {f : Nat} (hf : f < nv (t 7 m)) (h0 : t 8 (fI m f 0) = 0) : cFn t m f = cFn t m (f + 1) := by
  unfold cFn
  rw [show nv (t 7 m) - f = (nv (t 7 m) - (f + 1)) + 1 by omega, sr, if_neg (by rw [decide_eq_true h0]; decide)]
theorem bTn_ge (t : Nat → Nat → Int32) (m : Nat) (f : Nat) : 12 ≤ bTn t m f := by
  have := bTn_le t m 0 f
  rw [Nat.zero_add] at this
  exact this
/-- all fields from f on -/
theorem iM_all (hM : MapI t m) (hb : ∀ j, j < bTn t m (nv (t 7 m)) → ps (t 11 j) 255) : ∀ (r f : Nat) (g : Int32), f + r = nv (t 7 m) → iS t m (bTn t m f) = (g, cFn t m f, 0, 0, 0, true) → (iS t m (bTn t m (nv (t 7 m)))).1 = mTF t m r f (bTn t m f) g
  | 0, f, g, hr, h0 => by
    have : f = nv (t 7 m) := by omega
    rw [← this, h0, mTF]
  | r + 1, f, g, hr, h0 => by
    have hf : f < nv (t 7 m) := by omega
    have hF := hM.2.2.2.2 f hf
    obtain ⟨a, ha, ea⟩ := ps_ex (hF.1 0 (by decide))
    have ha : a ≤ 99 := ha
    rw [mTF]
    by_cases hz : t 8 (fI m f 0) = 0
    · have hn : ¬ 0 < t 8 (fI m f 0) := by rw [hz]; decide
      have eb : bTn t m (f + 1) = bTn t m f := by rw [bTn, if_neg hn]
      rw [if_neg hn]
      have ih := iM_all hM hb r (f + 1) g (by omega) (by rw [eb, h0, cFn_label hf hz])
      rw [ih, eb]
    · have hp : 0 < t 8 (fI m f 0) := by
        rw [ea] at hz ⊢
        have : a ≠ 0 := fun z => hz (by rw [z]; rfl)
        exact (nI_ltI (a := 0) (by decide) (by omega)).mpr (by omega)
      have eb : bTn t m (f + 1) = bTn t m f + nv (t 8 (fI m f 5)) * (3 + nv (t 8 (fI m f 3))) := by rw [bTn, if_pos hp]
      rw [if_pos hp]
      rw [cFn_named hf hz] at h0
      have hT := hF.2.2.1
      obtain ⟨T, eT⟩ : ∃ T, nv (t 8 (fI m f 5)) = T + 1 := ⟨nv (t 8 (fI m f 5)) - 1, by omega⟩
      have hle : bTn t m (f + 1) ≤ bTn t m (nv (t 7 m)) := by
        have := bTn_le t m (f + 1) (nv (t 7 m) - (f + 1))
        rw [show f + 1 + (nv (t 7 m) - (f + 1)) = nv (t 7 m) by omega] at this
        exact this
      have h1 := iM_times hf hF T 0 (bTn t m f) g (by omega) (bTn_ge t m f) (fun j hj => hb _ (by rw [eT] at eb; omega)) h0
      rw [← eT, ← eb] at h1
      have ih := iM_all hM hb r (f + 1) _ (by omega) h1
      rw [ih, eb]
/-- ahead of the fields -/
theorem iS_head : ∀ c, c ≤ 12 → iS t m c = (0, cFn t m 0, 0, 0, 0, true)
  | 0, _ => rfl
  | c + 1, h => by rw [iS, if_neg (fun z => absurd z.1 (by omega)), iS_head c (by omega)]
theorem iS_good (hM : MapI t m) (hb : ∀ j, j < bTn t m (nv (t 7 m)) → ps (t 11 j) 255) : (iS t m (bTn t m (nv (t 7 m)))).1 = mTF t m (nv (t 7 m)) 0 12 0 :=
  iM_all hM hb (nv (t 7 m)) 0 0 (by omega) (iS_head 12 (Nat.le_refl _))
end CCNT
