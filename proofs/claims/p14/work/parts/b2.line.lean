/-! A LINE IS TAKEN -/
theorem c_le' {x y : Int32} : im_cmp .le x y = true ↔ x ≤ y := decide_eq_true_iff
theorem mCut_s (s : Nat → Int32) (t : Nat → Nat → Int32) (p q : Nat) {j : Nat} (h1 : j ≠ 16) (h2 : j ≠ 17) (h3 : j ≠ 18) : (mCut s t p q).2.1 j = s j := by
  unfold mCut
  dsimp only
  split
  · rfl
  · split
    · dsimp only
      rw [pk_un h3, pk_un h2, pk_un h1]
    · dsimp only
      rw [pk_un h1]
theorem mCut_lt (s : Nat → Int32) (t : Nat → Nat → Int32) {p q : Nat} (hpq : p ≤ q) (h : ¬ (mCut s t p q).1 ≤ 0) : p < q := by
  refine Decidable.byContradiction (fun hn => h ?_)
  have hp : p = q := by omega
  subst hp
  unfold mCut
  dsimp only
  rw [Nat.sub_self, if_pos (Or.inl (show mSk (t 1) 0 p = p from rfl))]
  exact Int32.le_refl _
theorem mCut_J (s : Nat → Int32) (t : Nat → Nat → Int32) (p q : Nat) (h : (mCut s t p q).1 = 73) : ∃ a, p + 2 ≤ a ∧ a < q ∧ (mCut s t p q).2.1 17 = nI a ∧ (mCut s t p q).2.1 18 = nI q := by
  have hsk := mSk_ge (t 1) (q - p) p
  unfold mCut at h ⊢
  dsimp only at h ⊢
  split at h
  · cases h
  · rename_i h1
    rw [if_neg h1]
    split at h
    · rename_i h2
      rw [if_pos h2]
      dsimp only at h ⊢
      split at h
      · rename_i h3
        exact ⟨_, by omega, h3.2.2, rfl, rfl⟩
      · cases h
    · rename_i h2
      dsimp only at h
      split at h
      · exact absurd h h2
      · cases h
section LINE
variable {V : Prop} {A : Bk} {N n : Nat} {h : im_H} {s : Nat → Int32} {t : Nat → Nat → Int32}
/-- Line's cells have changed, and the numbers that a line tells -/
theorem DR_67 {h' : im_H} {s' : Nat → Int32} {t' : Nat → Nat → Int32} (hR : DR V A N n h s t) (hk : ∀ k, (k < 6 ∨ 8 ≤ k) → h'[k]? = h[k]?) (hL : CL h') (h10 : s' 10 = s 10) (h27 : s' 27 = s 27) (h19 : s' 19 = s 19) (h13 : s' 13 = s 13) (h14 : s' 14 = s 14) (ht : ∀ j, j ≠ 9 → t' j = t j) : DR V A N n h' s' t' := by
  obtain ⟨r1, ⟨o1, o2, r5, rv⟩, -, r0, ⟨c1, ⟨g, c2, c3⟩, c4⟩, dd⟩ := hR
  have e1 : t' 1 = t 1 := ht 1 (by decide)
  have e3 : t' 3 = t 3 := ht 3 (by decide)
  have e4 : t' 4 = t 4 := ht 4 (by decide)
  have e5 : t' 5 = t 5 := ht 5 (by decide)
  have e6 : t' 6 = t 6 := ht 6 (by decide)
  have e7 : t' 7 = t 7 := ht 7 (by decide)
  have e8 : t' 8 = t 8 := ht 8 (by decide)
  have hN : ∀ k, 25 ≤ k → h'[k]? = h[k]? := fun k hk' => hk k (by omega)
  have eL : mLast s' t' = mLast s t := by unfold mLast; rw [h10, e3]
  have eF : lastF s' t' = lastF s t := by unfold lastF; rw [eL, e7]
  have eP : PD s' t' = PD s t := by
    funext m f oc pi
    unfold PD
    rw [eF, h27, h19]
  have d1 := dd.1
  unfold DR
  rw [h10, eP, e1]
  refine ⟨r1, ⟨o1, o2, ?_, fun v => by rw [h13, h14]; exact rv v⟩, hL, by rw [hk 1 (by decide)]; exact r0, ⟨by rw [hN _ (by omega), e3]; exact c1, ⟨g, by rw [hN _ (by omega)]; exact c2, by rw [e3]; exact c3⟩, ?_⟩, ?_⟩
  · rw [hk 5 (by decide), r5]
    unfold dC
    rw [eL, eF, h10]
  · rw [e3]
    intro k hk'
    refine CMp_keep (fun k a x hx => by rw [hN k a]; exact hx) rfl (fun _ _ => rfl) (fun j a b => by rw [ht j (by omega)]) (fun f w _ _ => by rw [e8]) rfl (fun _ _ => rfl) (fun _ _ _ _ z => z) (fun _ _ _ _ => rfl) (c4 k hk')
  · unfold dA
    rw [e3, e7, e8]
    exact dd
theorem fD.pre {a z a' z' : Nat} {h1 h2 : im_H} (hf : fD N a z h1 h2) (hr : fr 6 8 h h1) (ha : a ≤ a') (hz : z ≤ z') : fD N a' z' h h2 := by
  obtain ⟨f1, f2, f3, f4⟩ := hf
  obtain ⟨r1, r2, r3⟩ := hr
  refine ⟨fun k hk hk2 => ?_, by omega, by omega, by omega⟩
  rw [f1 k hk hk2]
  exact r3 k (by omega)
end LINE
