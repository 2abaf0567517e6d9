/-! read -/
section READ0
variable {V : Prop} {A : Bk} {h h' : im_H} {s s' : Nat → Int32} {t t' : Nat → Nat → Int32}
/-- no edition more -/
theorem CS_stay (hV : V → False) (hS : CS V A h s t) (hI : MI s t) (h0 : h'[0]? = some (.inr (7, cT A s'))) (hk : ∀ k, 1 ≤ k → (k < 5 ∨ 8 ≤ k) → ∀ x, h[k]? = some x → h'[k]? = some x) (h5 : ∃ ed mp lt o1 o2, h'[5]? = some (.inr (0, [.ref 6, ed, mp, lt, .int o1, .int o2]))) (hL : CL h') (h10 : s' 10 = s 10) (h21 : s' 21 = s 21) (h23 : s' 23 = s 23) (h24 : s' 24 = s 24) (h25 : s' 25 = s 25)
    (e1 : t' 1 = t 1) (e2 : t' 2 = t 2) (e10 : t' 10 = t 10) (e11 : t' 11 = t 11) (h3 : ∀ e, e ≠ nv (s 10) → t' 3 e = t 3 e) (hj : ∀ j M, 4 ≤ j → j ≤ 7 → M < 8 * nv (s 10) → t' j M = t j M) (h8 : ∀ M f w, M < 8 * nv (s 10) → f < 30 → w < 14 → t' 8 (fI M f w) = t 8 (fI M f w)) : CS V A h' s' t' := by
  obtain ⟨a0, a1, ⟨g2, a2, a2g⟩, a3, -, -, ⟨a8, g9, a9, a9j⟩, aI, aE⟩ := hS
  have hx10 : ∃ x, h[10]? = some x := by
    rcases aI with ⟨z, y, -⟩ | ⟨m, y, -⟩
    · exact ⟨_, y⟩
    · exact ⟨_, y⟩
  obtain ⟨x10, hx10⟩ := hx10
  have k10 : h'[10]? = h[10]? := by rw [hx10]; exact hk 10 (by decide) (Or.inr (by decide)) _ hx10
  obtain ⟨ed, mp, lt, o1, o2, h5⟩ := h5
  refine ⟨h0, by rw [e1]; exact hk 1 (by decide) (Or.inl (by decide)) _ a1, ⟨g2, hk 2 (by decide) (Or.inl (by decide)) _ a2, by rw [h10]; exact a2g⟩, hk 3 (by decide) (Or.inl (by decide)) _ a3, ⟨ed, mp, lt, o1, o2, h5, fun v => (hV v).elim⟩, hL, ⟨by rw [h21]; exact hk 8 (by decide) (Or.inr (by decide)) _ a8, g9, hk 9 (by decide) (Or.inr (by decide)) _ a9, by rw [h21, e10]; exact a9j⟩, IR_k2 hI k10 h23 h24 h25 h10 h3 hj h8 e11 aI, ?_⟩
  rw [h10]
  intro e he
  have hDr := hI.2 e he
  exact CE_keep hDr (fun k a x hx => hk k (by omega) (Or.inr (by omega)) x hx) rfl (fun _ _ => rfl) (fun _ _ _ _ => rfl) (h3 e (by omega)) (fun k j a b c => hj j _ b c (by have := hDr.1.2; omega)) (fun k f w a b c => h8 _ f w (by have := hDr.1.2; omega) b c) (fun i _ => by rw [e2]) (aE e he)
def bX (A B : Bk) (E : Nat) : Bk := (B.1, fun m => if m < 8 * E then A.2.1 m else B.2.1 m, fun m f => if m < 8 * E then A.2.2 m f else B.2.2 m f)
/-- an edition more -/
theorem CE_new {B : Bk} {n E : Nat} {P : Nat → Nat → Int32 → Int32 → Prop} (hDr : Dr t E) (hn : n ≤ 3000) (h25 : 25 ≤ B.1 E) {N : Nat} (hA : dA B N n t E) (hE : CEd B h t E (lbS t) (plS t) P (dTx E (t 1))) (ht : ∀ j, j ≠ 2 → t' j = t j) (h2 : t' 2 = mCp (t 1) (3000 * E) (t 2) n) : CE (bX A B E) h t' E := by
  obtain ⟨c1, ⟨g, c2, c3⟩, c4⟩ := hE
  obtain ⟨d1, d2, d3, d4⟩ := hA
  have e3 : t' 3 = t 3 := ht 3 (by decide)
  have e8 : t' 8 = t 8 := ht 8 (by decide)
  have e7 : t' 7 = t 7 := ht 7 (by decide)
  unfold CE CEd
  rw [e3, e7, e8]
  refine ⟨h25, ⟨c1, ⟨g, c2, fun k hk => ?_⟩, fun k hk => ?_⟩, fun k hk f hf => ?_⟩
  · rw [c3 k hk]
    show _ = some (if 8 * E + k < 8 * E then A.2.1 (8 * E + k) else B.2.1 (8 * E + k))
    rw [if_neg (by omega)]
  · refine CMp_keep (fun _ _ _ z => z) (if_neg (by omega)) (fun f _ => if_neg (by omega)) (fun j a b => by rw [ht j (by omega)]) (fun f w _ _ => by rw [e8]) ?_ (fun f hf => ?_) (fun _ _ _ _ _ => trivial) (fun f hf j hj => ?_) (c4 k hk)
    · unfold lbS
      rw [e7]
      exact mBT_congr _ (fun f w _ _ => by rw [e8])
    · unfold plS
      rw [e8, mBT_congr f (fun f' w _ _ => by rw [e8])]
    · obtain ⟨-, u2, u3⟩ := (d2 k hk).2 f hf
      have u3 := u3 (by omega)
      rw [h2]
      unfold dTx
      have := mCp_at (x := t 1) (y := t 2) (o := 3000 * E) (n := n) (k := nv (t 8 (fI (8 * E + k) f 12)) + j - 3000 * E) (by omega)
      rw [show 3000 * E + (nv (t 8 (fI (8 * E + k) f 12)) + j - 3000 * E) = nv (t 8 (fI (8 * E + k) f 12)) + j by omega] at this
      exact this
  · obtain ⟨-, u2, u3⟩ := (d2 k hk).2 f hf
    omega
end READ0
