section SET2
variable {A : Bk} {h h' : im_H} {t : Nat → Nat → Int32} {m m' : Nat} {Q : Option Value → im_H → Prop}
theorem fM_kind {lb : Int32} {pl : Nat → Int32} {P : Nat → Int32 → Int32 → Prop} {tx : Nat → Int32} (hm : CMp A h t m lb pl P tx) (hf : fM A t m h h') {k : Nat} {x : im_C} (hx : h[k]? = some x) (h6 : ∀ l, x ≠ .inr (6, l)) (h3 : ∀ l, x ≠ .inr (3, l)) : h'[k]? = some x := by
  rw [hf.2.2 k]
  · exact hx
  · intro y
    rw [y, hm.2.1] at hx
    exact h6 _ (Option.some.inj hx).symm
  · intro f hf' y
    obtain ⟨oc, pi, sh, -, q2, -⟩ := hm.fld hf'
    rw [y, q2] at hx
    exact h3 _ (Option.some.inj hx).symm
theorem CMp_oth {lb lb2 : Int32} {pl pl2 : Nat → Int32} {P P2 : Nat → Int32 → Int32 → Prop} {tx tx2 : Nat → Int32} (hm' : CMp A h t m' lb pl P tx) (hm : CMp A h t m lb2 pl2 P2 tx2) (hf : fM A t m h h') (h1 : A.2.1 m' ≠ A.2.1 m) (h2 : ∀ f f', f < nv (t 7 m') → f' < nv (t 7 m) → A.2.2 m' f ≠ A.2.2 m f') : CMp A h' t m' lb pl P tx := by
  refine CMp_sel hm' (fun k z hz => fM_kind hm hf hz (fun _ y => nomatch y) (fun _ y => nomatch y)) ?_ (fun f hf' oc pi sh hx => ?_)
  · rw [hf.2.2 _ h1]
    · exact hm'.2.1
    · intro f hf' y
      obtain ⟨oc, pi, sh, -, q2, -⟩ := hm.fld hf'
      have := hm'.2.1
      rw [y, q2] at this
      cases this
  · rw [hf.2.2 _ ?_ (fun f' hf2 => h2 f f' hf' hf2)]
    · exact hx
    · intro y
      rw [y, hm.2.1] at hx
      cases hx
/-- Edition.settle -/
theorem c_130 (d : Nat) {N n e : Nat} {P : Nat → Nat → Int32 → Int32 → Prop} {tx : Nat → Int32} (hD : Dr t e) (hA : dA A N n t e) (hE : CEd A h t e (fun _ => 0) (fun _ _ => -1) P tx) (k : ∀ h', h'.length = h.length → im_sz h' = im_sz h → (∀ k, k < N → h'[k]? = h[k]?) → CEd A h' t e (lbS t) (plS t) P tx → Q none h') : gC (gD (d + 4)) 130 [.ref (A.1 e)] h Q := by
  obtain ⟨c, hc, e3⟩ := ps_ex hD.1
  have e3n : nv (t 3 e) = c := by rw [e3, nv_nI (by omega)]
  obtain ⟨c1, ⟨ga, c2, c3⟩, c4⟩ := hE
  obtain ⟨d1, d2, d3, d4⟩ := hA
  refine gC.of (q := me_130.2) rfl (Nat.le_of_ble_eq_true rfl) rfl ?_
  refine gG.step (cd := cd_130) rfl (fun _ => rfl) ?_
  refine gG.step (L' := [some (.ref (A.1 e)), some (.int (nI 0))]) rfl (fun _ => rfl) ?_
  have key : ∀ (r i : Nat) (H : im_H), i + r = c → H.length = h.length → im_sz H = im_sz h → (∀ k, k < N → H[k]? = h[k]?) → H[A.1 e]? = some (.inr (2, [.ref (A.1 e + 1), .int (t 3 e)])) → H[A.1 e + 1]? = some (.inl (9, 8, .inr (.inr (.inr (.inr ga))))) → (∀ k, k < i → CMp A H t (8 * e + k) (lbS t (8 * e + k)) (plS t (8 * e + k)) (P (8 * e + k)) tx) → (∀ k, i ≤ k → k < c → CMp A H t (8 * e + k) 0 (fun _ => -1) (P (8 * e + k)) tx) → gG tb_T (gD (d + 3)) none cd_130 2 [some (.ref (A.1 e)), some (.int (nI i))] [] H Q := by
    intro r
    induction r with
    | zero =>
      intro i H hi hl hz hN hc1 hc2 ha hb
      have hic : i = c := by omega
      subst hic
      iterate 2 refine gG.step rfl (fun _ => rfl) ?_
      refine gG.get rfl (hc1) rfl ?_
      rw [e3]
      refine gG.icmp (tgt := 25) rfl rfl (fun _ => ?_) (fun c => absurd ((c_ge (by omega) (by omega)).mpr (by omega)) c)
      refine gG.done rfl (fun _ => rfl) (k H hl hz hN ⟨hc1, ⟨ga, hc2, c3⟩, fun k hk => ha k (by omega)⟩)
    | succ r ih =>
      intro i H hi hl hz hN hc1 hc2 ha hb
      have hil : i < nv (t 3 e) := by omega
      have hm := hb i (Nat.le_refl _) (by omega)
      iterate 2 refine gG.step rfl (fun _ => rfl) ?_
      refine gG.get rfl (hc1) rfl ?_
      rw [e3]
      refine gG.icmp (tgt := 25) rfl rfl (fun c => absurd c (fun z => absurd ((c_ge (by omega) (by omega)).mp z) (by omega))) (fun _ => ?_)
      refine gG.step rfl (fun _ => rfl) ?_
      refine gG.get rfl (hc1) rfl ?_
      refine gG.step rfl (fun _ => rfl) ?_
      refine gG.aal (j := i) rfl hc2 (c3 i hil) rfl (show i < 8 by omega) (by decide) ?_
      refine gG.vir rfl (hm.2.1) rfl rfl (Nat.le_of_ble_eq_true rfl) rfl rfl (Nat.le_of_ble_eq_true rfl) ?_
      refine c_391 d (hD.2 i hil) (fun f f' hf hf' y => (d4 i i f f' hil hil hf hf' y).2) hm (fun H2 hf hm2 => ?_)
      show gG _ _ _ _ 19 _ [] H2 Q
      refine gG.step (L' := [some (.ref (A.1 e)), some (.int (nI i + 1))]) rfl (fun _ => rfl) ?_
      refine gG.goto (tgt := 2) rfl rfl ?_
      rw [nI_1]
      have oth : ∀ k, k ≠ i → k < nv (t 3 e) → A.2.1 (8 * e + k) ≠ A.2.1 (8 * e + i) ∧ ∀ f f', f < nv (t 7 (8 * e + k)) → f' < nv (t 7 (8 * e + i)) → A.2.2 (8 * e + k) f ≠ A.2.2 (8 * e + i) f' := fun k hk hkl => ⟨fun y => hk (d3 k i hkl hil y), fun f f' hf hf' y => hk (d4 k i f f' hkl hil hf hf' y).1⟩
      refine ih (i + 1) H2 (by omega) (hf.1.trans hl) (hf.2.1.trans hz) (fun k hk => ?_) (fM_kind hm hf hc1 (fun _ y => nomatch y) (fun _ y => nomatch y)) (fM_kind hm hf hc2 (fun _ y => nomatch y) (fun _ y => nomatch y)) (fun k hk => ?_) (fun k hk hk2 => ?_)
      · rw [hf.2.2 k (by have := (d2 i hil).1; omega) (fun f hf' => by have := ((d2 i hil).2 f hf').1; omega)]
        exact hN k hk
      · by_cases hki : k = i
        · rw [hki]; exact hm2
        · exact CMp_oth (ha k (by omega)) hm hf (oth k hki (by omega)).1 (oth k hki (by omega)).2
      · exact CMp_oth (hb k (by omega) hk2) hm hf (oth k (by omega) (by omega)).1 (oth k (by omega) (by omega)).2
  exact key c 0 h (by omega) rfl rfl (fun _ _ => rfl) c1 c2 (fun k hk => absurd hk (Nat.not_lt_zero _)) (fun k _ hk => c4 k (by omega))
end SET2
