/-! THE LINES OF A TEXT -/
theorem mEol_is {x : Nat → Int32} : ∀ {r p i : Nat}, p ≤ i → i ≤ p + r → (∀ j, p ≤ j → j < i → ¬ x j = 10) → (i = p + r ∨ x i = 10) → mEol x r p = i
  | 0, p, i, h1, h2, _, _ => by rw [mEol]; omega
  | r + 1, p, i, h1, h2, hn, he => by
    rw [mEol]
    by_cases hp : x p = 10
    · rw [if_pos hp]
      by_cases hpi : p = i
      · exact hpi
      · exact absurd hp (hn p (Nat.le_refl _) (by omega))
    · rw [if_neg hp]
      have hpi : p ≠ i := by
        intro z
        subst z
        rcases he with he | he
        · omega
        · exact hp he
      exact mEol_is (by omega) (by omega) (fun j a b => hn j (by omega) b) (he.elim (fun z => Or.inl (by omega)) Or.inr)
theorem mLine_0 (s : Nat → Int32) (t : Nat → Nat → Int32) (n : Nat) : mLine s t n n = (0, s, t) := by
  have : mCut s t n n = (0, s, t) := by
    unfold mCut
    dsimp only
    rw [Nat.sub_self, if_pos (Or.inl (show mSk (t 1) 0 n = n from rfl))]
  unfold mLine
  rw [this]
  rfl
theorem z_g5 : (0 : Int32) ≤ 0 ∧ (0 : Int32) ≤ 1 ∧ (0 : Int32) ≤ 2 ∧ (0 : Int32) ≤ 3 ∧ (0 : Int32) ≤ 4 ∧ (0 : Int32) ≤ 5 := by decide
theorem mLine_ge (s : Nat → Int32) (t : Nat → Nat → Int32) (p q : Nat) : 0 ≤ (mLine s t p q).1 := by
  unfold mLine
  dsimp only
  generalize mCut s t p q = z
  obtain ⟨w, s, t⟩ := z
  dsimp only
  split
  · dsimp only; split <;> (first | exact z_g5.1 | exact z_g5.2.1 | exact z_g5.2.2.1 | exact z_g5.2.2.2.1 | exact z_g5.2.2.2.2.1 | exact z_g5.2.2.2.2.2)
  split
  · dsimp only
    unfold mReadMap
    split
    · split
      · first | exact z_g5.1 | exact z_g5.2.1 | exact z_g5.2.2.1 | exact z_g5.2.2.2.1 | exact z_g5.2.2.2.2.1 | exact z_g5.2.2.2.2.2
      · split <;> (first | exact z_g5.1 | exact z_g5.2.1 | exact z_g5.2.2.1 | exact z_g5.2.2.2.1 | exact z_g5.2.2.2.2.1 | exact z_g5.2.2.2.2.2)
    · first | exact z_g5.1 | exact z_g5.2.1 | exact z_g5.2.2.1 | exact z_g5.2.2.2.1 | exact z_g5.2.2.2.2.1 | exact z_g5.2.2.2.2.2
  split
  · dsimp only
    unfold mReadField
    cases mLast s t with
    | none => exact z_g5.2.2.1
    | some m =>
      dsimp only
      by_cases hc : t 9 0 ≤ 99 ∧ (1 ≤ t 9 1 ∧ t 9 1 ≤ t 5 m) ∧ (1 ≤ t 9 2 ∧ t 9 2 ≤ t 6 m) ∧ ((if t 9 0 ≤ 0 then 0 else 1) ≤ t 9 3 ∧ t 9 3 ≤ 80) ∧ t 9 4 ≤ 15
      · rw [if_pos hc]
        split
        · first | exact z_g5.1 | exact z_g5.2.1 | exact z_g5.2.2.1 | exact z_g5.2.2.2.1 | exact z_g5.2.2.2.2.1 | exact z_g5.2.2.2.2.2
        · split
          · first | exact z_g5.1 | exact z_g5.2.1 | exact z_g5.2.2.1 | exact z_g5.2.2.2.1 | exact z_g5.2.2.2.2.1 | exact z_g5.2.2.2.2.2
          · split <;> (first | exact z_g5.1 | exact z_g5.2.1 | exact z_g5.2.2.1 | exact z_g5.2.2.2.1 | exact z_g5.2.2.2.2.1 | exact z_g5.2.2.2.2.2)
      · rw [if_neg hc]
        exact z_g5.2.2.2.1
  cases mLast s t with
  | none => show (0 : Int32) ≤ 2; first | exact z_g5.1 | exact z_g5.2.1 | exact z_g5.2.2.1 | exact z_g5.2.2.2.1 | exact z_g5.2.2.2.2.1 | exact z_g5.2.2.2.2.2
  | some m =>
    dsimp only
    split
    · first | exact z_g5.1 | exact z_g5.2.1 | exact z_g5.2.2.1 | exact z_g5.2.2.2.1 | exact z_g5.2.2.2.2.1 | exact z_g5.2.2.2.2.2
    split
    · unfold mReadTimes
      split
      · split
        · first | exact z_g5.1 | exact z_g5.2.1 | exact z_g5.2.2.1 | exact z_g5.2.2.2.1 | exact z_g5.2.2.2.2.1 | exact z_g5.2.2.2.2.2
        · dsimp only; split <;> (first | exact z_g5.1 | exact z_g5.2.1 | exact z_g5.2.2.1 | exact z_g5.2.2.2.1 | exact z_g5.2.2.2.2.1 | exact z_g5.2.2.2.2.2)
      · first | exact z_g5.1 | exact z_g5.2.1 | exact z_g5.2.2.1 | exact z_g5.2.2.2.1 | exact z_g5.2.2.2.2.1 | exact z_g5.2.2.2.2.2
    split
    · dsimp only
      unfold mReadGroup
      split
      · split <;> (first | exact z_g5.1 | exact z_g5.2.1 | exact z_g5.2.2.1 | exact z_g5.2.2.2.1 | exact z_g5.2.2.2.2.1 | exact z_g5.2.2.2.2.2)
      · first | exact z_g5.1 | exact z_g5.2.1 | exact z_g5.2.2.1 | exact z_g5.2.2.2.1 | exact z_g5.2.2.2.2.1 | exact z_g5.2.2.2.2.2
    split
    · unfold mReadPic
      split
      · split <;> (first | exact z_g5.1 | exact z_g5.2.1 | exact z_g5.2.2.1 | exact z_g5.2.2.2.1 | exact z_g5.2.2.2.2.1 | exact z_g5.2.2.2.2.2)
      · first | exact z_g5.1 | exact z_g5.2.1 | exact z_g5.2.2.1 | exact z_g5.2.2.2.1 | exact z_g5.2.2.2.2.1 | exact z_g5.2.2.2.2.2
    split
    · dsimp only
      unfold mReadMarks
      split
      · split <;> (first | exact z_g5.1 | exact z_g5.2.1 | exact z_g5.2.2.1 | exact z_g5.2.2.2.1 | exact z_g5.2.2.2.2.1 | exact z_g5.2.2.2.2.2)
      · first | exact z_g5.1 | exact z_g5.2.1 | exact z_g5.2.2.1 | exact z_g5.2.2.2.1 | exact z_g5.2.2.2.2.1 | exact z_g5.2.2.2.2.2
    split
    · dsimp only
      unfold mReadCur
      split <;> (first | exact z_g5.1 | exact z_g5.2.1 | exact z_g5.2.2.1 | exact z_g5.2.2.2.1 | exact z_g5.2.2.2.2.1 | exact z_g5.2.2.2.2.2)
    · dsimp only
      unfold mReadTxt
      split
      · split <;> (first | exact z_g5.1 | exact z_g5.2.1 | exact z_g5.2.2.1 | exact z_g5.2.2.2.1 | exact z_g5.2.2.2.2.1 | exact z_g5.2.2.2.2.2)
      · first | exact z_g5.1 | exact z_g5.2.1 | exact z_g5.2.2.1 | exact z_g5.2.2.2.1 | exact z_g5.2.2.2.2.1 | exact z_g5.2.2.2.2.2
/-- below N only the object itself, Draft and Line have changed -/
def fT (N a z : Nat) (h h' : im_H) : Prop := (∀ k, k < N → (1 ≤ k ∧ k < 5 ∨ 8 ≤ k) → h'[k]? = h[k]?) ∧ h.length ≤ h'.length ∧ h'.length ≤ h.length + a ∧ im_sz h' ≤ im_sz h + z
theorem fT.rf {N a z : Nat} {h : im_H} : fT N a z h h := ⟨fun _ _ _ => rfl, Nat.le_refl _, Nat.le_add_right _ _, Nat.le_add_right _ _⟩
theorem fT.up {N a z a' z' : Nat} {h h' : im_H} (hf : fT N a z h h') (ha : a ≤ a') (hz : z ≤ z') : fT N a' z' h h' := ⟨hf.1, hf.2.1, by have := hf.2.2.1; omega, by have := hf.2.2.2; omega⟩
theorem fT.line {N a z a2 z2 a' z' : Nat} {h h1 h2 : im_H} (hf : fT N a z h h1) (hg : fD N a2 z2 h1 h2) (ha : a + a2 ≤ a') (hz : z + z2 ≤ z') : fT N a' z' h h2 := by
  obtain ⟨f1, f2, f3, f4⟩ := hf
  obtain ⟨g1, g2, g3, g4⟩ := hg
  refine ⟨fun k hk hk2 => ?_, by omega, by omega, by omega⟩
  rw [g1 k hk (by omega)]
  exact f1 k hk hk2
theorem fT.set {N a z o : Nat} {h h' : im_H} {x y : im_C} (hf : fT N a z h h') (hx : h'[o]? = some x) (hs : im_sc y = im_sc x) (ho : N ≤ o ∨ o = 0 ∨ (5 ≤ o ∧ o < 8)) : fT N a z h (h'.set o y) := by
  obtain ⟨h1, h2, h3, h4⟩ := hf
  refine ⟨fun k hk hk2 => ?_, by rw [List.length_set]; exact h2, by rw [List.length_set]; exact h3, by rw [im_sz_set hx hs]; exact h4⟩
  rw [set_ne (by omega)]
  exact h1 k hk hk2
section LINES
variable {V : Prop} {A : Bk} {N n : Nat} {h : im_H} {s : Nat → Int32} {t : Nat → Nat → Int32} {Q : Option Value → im_H → Prop}
/-- the object's own cell has changed, and numbers of the reference that a draft doesn't know -/
theorem DR_0 {h' : im_H} {s' : Nat → Int32} (hR : DR V A N n h s t) (hk : ∀ k, k ≠ 0 → h'[k]? = h[k]?) (h10 : s' 10 = s 10) (h27 : s' 27 = s 27) (h19 : s' 19 = s 19) (h13 : s' 13 = s 13) (h14 : s' 14 = s 14) : DR V A N n h' s' t := by
  obtain ⟨⟨b1, b2, w, c, f, q, r6⟩, ⟨g7, r7⟩⟩ := hR.2.2.1
  have x6 := (hk 6 (by decide)).trans r6
  have x7 := (hk 7 (by decide)).trans r7
  obtain ⟨r1, ⟨o1, o2, r5, rv⟩, -, r0, ⟨c1, ⟨g, c2, c3⟩, c4⟩, dd⟩ := hR
  have d1 := dd.1
  have hN : ∀ k, 25 ≤ k → h'[k]? = h[k]? := fun k hk' => hk k (by omega)
  have eL : mLast s' t = mLast s t := by unfold mLast; rw [h10]
  have eF : lastF s' t = lastF s t := by unfold lastF; rw [eL]
  have eP : PD s' t = PD s t := by
    funext m f oc pi
    unfold PD
    rw [eF, h27, h19]
  unfold DR
  rw [h10, eP]
  refine ⟨r1, ⟨o1, o2, ?_, fun v => by rw [h13, h14]; exact rv v⟩, ⟨⟨b1, b2, w, c, f, q, x6⟩, ⟨g7, x7⟩⟩, by rw [hk 1 (by decide)]; exact r0, ⟨by rw [hN _ (by omega)]; exact c1, ⟨g, by rw [hN _ (by omega)]; exact c2, c3⟩, fun k hk' => CMp_fr hN (c4 k hk')⟩, dd⟩
  rw [hk 5 (by decide), r5]
  unfold dC
  rw [eL, eF, h10]
end LINES
