/-! WHAT STAYS -/
theorem CSh_keep {h h' : im_H} {sh : Value} {g tx tx' : Nat → Int32} (hk : ∀ k, 25 ≤ k → ∀ x, h[k]? = some x → h'[k]? = some x) (htx : ∀ j, j < nv (g 13) → tx' (nv (g 12) + j) = tx (nv (g 12) + j)) (hs : CSh h sh g tx) : CSh h' sh g tx' := by
  rcases hs with h1 | ⟨h13, a, y, e, ha, hy, hyt⟩
  · exact Or.inl h1
  · exact Or.inr ⟨h13, a, y, e, ha, hk a ha _ hy, fun j hj => by rw [hyt j hj, htx j hj]⟩
theorem CFd_keep {h h' : im_H} {o : Nat} {g tx tx' : Nat → Int32} {oc pi pl : Int32} (hk : ∀ k, 25 ≤ k → ∀ x, h[k]? = some x → h'[k]? = some x) (htx : ∀ j, j < nv (g 13) → tx' (nv (g 12) + j) = tx (nv (g 12) + j)) (hs : CFd h o g oc pi pl tx) : CFd h' o g oc pi pl tx' := by
  obtain ⟨ho, sh, h1, h2⟩ := hs
  exact ⟨ho, sh, hk o ho _ h1, CSh_keep hk htx h2⟩
theorem hC_congr {t t' : Nat → Nat → Int32} {m : Nat} (h7 : t' 7 m = t 7 m) (h8 : ∀ f, f < nv (t 7 m) → t' 8 (fI m f 9) = t 8 (fI m f 9)) : hC t' m = hC t m := by
  unfold hC
  rw [h7, sr_congr (p := mCurP t' m) (q := mCurP t m) (fun f _ hf => by unfold mCurP; rw [h8 f (by omega)])]
/-- a map's cells stay, in another heap and beside other numbers -/
theorem CMp_keep {A A' : Bk} {h h' : im_H} {t t' : Nat → Nat → Int32} {m : Nat} {lb lb' : Int32} {pl pl' : Nat → Int32} {P P' : Nat → Int32 → Int32 → Prop} {tx tx' : Nat → Int32} (hk : ∀ k, 25 ≤ k → ∀ x, h[k]? = some x → h'[k]? = some x) (hA1 : A'.2.1 m = A.2.1 m) (hA2 : ∀ f, f < nv (t 7 m) → A'.2.2 m f = A.2.2 m f) (ht : ∀ j, 4 ≤ j → j ≤ 7 → t' j m = t j m) (h8 : ∀ f w, f < nv (t 7 m) → w < 14 → t' 8 (fI m f w) = t 8 (fI m f w)) (hlb : lb' = lb) (hpl : ∀ f, f < nv (t 7 m) → pl' f = pl f) (hP : ∀ f oc pi, f < nv (t 7 m) → P f oc pi → P' f oc pi)
    (htx : ∀ f, f < nv (t 7 m) → ∀ j, j < nv (t 8 (fI m f 13)) → tx' (nv (t 8 (fI m f 12)) + j) = tx (nv (t 8 (fI m f 12)) + j)) (hm : CMp A h t m lb pl P tx) : CMp A' h' t' m lb' pl' P' tx' := by
  obtain ⟨h1, h2, ⟨g, h3, h4⟩, h5⟩ := hm
  subst hlb
  unfold CMp
  rw [hA1, ht 7 (by decide) (by decide)]
  have eM : cM A' t' m lb' = cM A t m lb' := by
    unfold cM
    rw [ht 4 (by decide) (by decide), ht 5 (by decide) (by decide), ht 6 (by decide) (by decide), ht 7 (by decide) (by decide), hC_congr (t := t) (ht 7 (by decide) (by decide)) (fun f hf => h8 f 9 hf (by decide)), hA1]
  rw [eM]
  refine ⟨h1, hk _ h1 _ h2, ⟨g, hk _ (by omega) _ h3, fun f hf => by rw [h4 f hf, hA2 f hf]⟩, fun f hf => ?_⟩
  obtain ⟨oc, pi, hp, ho, sh, c1, c2⟩ := h5 f hf
  refine ⟨oc, pi, hP f oc pi hf hp, ?_⟩
  have eF : ∀ w, w < 14 → gF t' m f w = gF t m f w := fun w hw => h8 f w hf hw
  rw [hA2 f hf]
  refine ⟨ho, sh, ?_, ?_⟩
  · rw [hk _ ho _ c1]
    unfold cF
    rw [eF 0 (by decide), eF 1 (by decide), eF 2 (by decide), eF 3 (by decide), eF 4 (by decide), eF 5 (by decide), eF 6 (by decide), eF 7 (by decide), eF 8 (by decide), eF 9 (by decide), eF 10 (by decide), eF 11 (by decide), hpl f hf]
  · have := CSh_keep (tx' := tx') hk (htx f hf) c2
    unfold CSh at this ⊢
    rw [eF 13 (by decide), eF 12 (by decide)]
    exact this
theorem mBT_congr {t t' : Nat → Nat → Int32} {m : Nat} : ∀ n, (∀ f w, f < n → w < 14 → t' 8 (fI m f w) = t 8 (fI m f w)) → mBT t' m n = mBT t m n
  | 0, _ => rfl
  | n + 1, h => by
    rw [mBT, mBT, mBT_congr n (fun f w hf hw => h f w (by omega) hw)]
    unfold mBO
    rw [h n 0 (by omega) (by decide), h n 5 (by omega) (by decide), h n 3 (by omega) (by decide)]
/-- an edition stays -/
theorem CE_keep {A A' : Bk} {h h' : im_H} {t t' : Nat → Nat → Int32} {e : Nat} (hI : Dr t e) (hk : ∀ k, 25 ≤ k → ∀ x, h[k]? = some x → h'[k]? = some x) (hA0 : A'.1 e = A.1 e) (hA1 : ∀ k, k < nv (t 3 e) → A'.2.1 (8 * e + k) = A.2.1 (8 * e + k)) (hA2 : ∀ k f, k < nv (t 3 e) → f < nv (t 7 (8 * e + k)) → A'.2.2 (8 * e + k) f = A.2.2 (8 * e + k) f) (h3 : t' 3 e = t 3 e) (ht : ∀ k j, k < nv (t 3 e) → 4 ≤ j → j ≤ 7 → t' j (8 * e + k) = t j (8 * e + k)) (h8 : ∀ k f w, k < nv (t 3 e) → f < 30 → w < 14 → t' 8 (fI (8 * e + k) f w) = t 8 (fI (8 * e + k) f w))
    (h2 : ∀ i, i < 3000 * (e + 1) → t' 2 i = t 2 i) (hE : CE A h t e) : CE A' h' t' e := by
  obtain ⟨c1, ⟨c2, ⟨g, c3, c4⟩, c5⟩, c6⟩ := hE
  unfold CE CEd
  rw [hA0, h3]
  refine ⟨c1, ⟨hk _ c1 _ c2, ⟨g, hk _ (by omega) _ c3, fun k hk' => by rw [c4 k hk', hA1 k hk']⟩, fun k hk' => ?_⟩, fun k hk' f hf => ?_⟩
  · have h30 := (hI.2 k hk').2.2.2.1.2
    refine CMp_keep hk (hA1 k hk') (fun f hf => hA2 k f hk' hf) (fun j a b => ht k j hk' a b) (fun f w hf hw => h8 k f w hk' (by omega) hw) ?_ (fun f hf => ?_) (fun f oc pi _ hp => hp) (fun f hf j hj => ?_) (c5 k hk')
    · unfold lbS
      rw [ht k 7 hk' (by decide) (by decide)]
      exact mBT_congr _ (fun f w hf hw => h8 k f w hk' (by omega) hw)
    · unfold plS
      rw [h8 k f 0 hk' (by omega) (by decide), mBT_congr f (fun f' w hf' hw => h8 k f' w hk' (by omega) hw)]
    · exact h2 _ (by have := c6 k hk' f hf; omega)
  · have h30 := (hI.2 k hk').2.2.2.1.2
    rw [ht k 7 hk' (by decide) (by decide)] at hf
    rw [h8 k f 12 hk' (by omega) (by decide), h8 k f 13 hk' (by omega) (by decide)]
    exact c6 k hk' f hf
/-- nothing changed from 25 on -/
theorem CE_keep0 {A : Bk} {h h' : im_H} {t t' : Nat → Nat → Int32} {e : Nat} (hI : Dr t e) (hk : ∀ k, 25 ≤ k → h'[k]? = h[k]?) (ht : ∀ j, 2 ≤ j → j ≤ 8 → t' j = t j) (hE : CE A h t e) : CE A h' t' e :=
  CE_keep hI (fun k hk' x hx => by rw [hk k hk']; exact hx) rfl (fun _ _ => rfl) (fun _ _ _ _ => rfl) (by rw [ht 3 (by decide) (by decide)]) (fun k j _ a b => by rw [ht j (by omega) (by omega)]) (fun k f w _ _ _ => by rw [ht 8 (by decide) (by decide)]) (fun i _ => by rw [ht 2 (by decide) (by decide)]) hE
theorem cFn_congr {t t' : Nat → Nat → Int32} {m : Nat} (h7 : t' 7 = t 7) (h8 : t' 8 = t 8) (i : Nat) : cFn t' m i = cFn t m i := by
  unfold cFn
  rw [h7, h8]
theorem iS_congr {t t' : Nat → Nat → Int32} {m : Nat} (h7 : t' 7 = t 7) (h8 : t' 8 = t 8) : ∀ c, (∀ j, j < c → t' 11 j = t 11 j) → iS t' m c = iS t m c
  | 0, _ => by rw [iS, iS, cFn_congr h7 h8]
  | c + 1, h => by
    rw [iS, iS, iS_congr h7 h8 c (fun j hj => h j (by omega)), h7, h c (by omega)]
    congr 1
    unfold iNx iEnd
    rw [h8]
    simp only [cFn_congr h7 h8]
theorem bTn_congr {t t' : Nat → Nat → Int32} {m : Nat} (h8 : t' 8 = t 8) : ∀ n, bTn t' m n = bTn t m n
  | 0 => rfl
  | n + 1 => by rw [bTn, bTn, bTn_congr h8 n, h8]
theorem mHandO_congr {s s' : Nat → Int32} {t t' : Nat → Nat → Int32} (h10 : s' 10 = s 10) (h3 : t' 3 = t 3) (h4 : t' 4 = t 4) (map : Int32) : mHandO s' t' map = mHandO s t map := by
  unfold mHandO mMapO
  rw [h10, h3]
  have : ∀ e, mMapP t' e map = mMapP t e map := fun e => by funext k; unfold mMapP; rw [h4]
  rw [this]
theorem IR_keep {A : Bk} {h h' : im_H} {s s' : Nat → Int32} {t t' : Nat → Nat → Int32} (hk : h'[10]? = h[10]?) (h23 : s' 23 = s 23) (h24 : s' 24 = s 24) (h25 : s' 25 = s 25) (h10 : s' 10 = s 10) (h3 : t' 3 = t 3) (h4 : t' 4 = t 4) (h7 : t' 7 = t 7) (h8 : t' 8 = t 8) (h11 : ∀ j, j < nv (s 23) → t' 11 j = t 11 j) (hI : IR A h s t) : IR A h' s' t' := by
  rcases hI with ⟨z, h1, h2⟩ | ⟨m, h1, h2, hh, hl⟩
  · exact Or.inl ⟨z, by rw [hk]; exact h1, by rw [h23]; exact h2⟩
  · refine Or.inr ⟨m, ?_, ?_, ?_, ?_⟩
    · rw [hk, h23, iS_congr h7 h8 _ h11]
      exact h1
    · rw [h25, h10]; exact h2
    · rw [h24, mHandO_congr h10 h3 h4]; exact hh
    · rw [h23, bTn_congr h8, h7]; exact hl
/-- the reference has moved: the class's cells are as they were -/
theorem CS_ref {V : Prop} {A : Bk} {h h' : im_H} {s : Nat → Int32} {t : Nat → Nat → Int32} (hI : MI s t) (hf : ∀ k, (k < 11 ∨ 24 ≤ k) → h'[k]? = h[k]?) (hS : CS V A h s t) : CS V A h' s t := by
  obtain ⟨a0, a1, a2, a3, a5, a6, a8, a10, aE⟩ := hS
  have q : ∀ k, k < 11 → h'[k]? = h[k]? := fun k hk => hf k (Or.inl hk)
  unfold CS CD CL CX
  rw [q 0 (by decide), q 1 (by decide), q 2 (by decide), q 3 (by decide), q 5 (by decide), q 6 (by decide), q 7 (by decide), q 8 (by decide), q 9 (by decide)]
  exact ⟨a0, a1, a2, a3, a5, a6, a8, IR_keep (q 10 (by decide)) rfl rfl rfl rfl rfl rfl rfl rfl (fun _ _ => rfl) a10, fun e he => CE_keep0 (hI.2 e he) (fun k hk => hf k (Or.inr (by omega))) (fun _ _ _ => rfl) (aE e he)⟩
/-- the reference's cells stay beside a call of the class -/
theorem MM_cls {h h' : im_H} {s : Nat → Int32} {t : Nat → Nat → Int32} {h0 : im_H} (hf : ∀ k, 11 ≤ k → k < 24 → h'[k]? = h[k]?) (hM : MM 11 h0 h s t) : MM 11 h' h' s t := by
  obtain ⟨-, h1, h2⟩ := hM
  exact ⟨fr.rf, by rw [hf 11 (by decide) (by decide)]; exact h1, fun j a b => by rw [hf (11 + j) (by omega) (by omega)]; exact h2 j a b⟩
/-! sign -/
theorem i8_id {x : Int32} (h : ps x 126) : x.toInt8.toInt32 = x := by
  obtain ⟨a, ha, rfl⟩ := ps_ex h
  have : ∀ a : Fin 127, (nI a.val).toInt8.toInt32 = nI a.val := by decide
  exact this ⟨a, by omega⟩
theorem i8_id2 {x : Int32} (h : ps x 126) : x.toInt8.toInt32.toInt8.toInt32 = x := by
  rw [i8_id h, i8_id h]
theorem bv_sh (x : BitVec 32) (n : Nat) (hn : n ≤ 24) : x.sshiftRight n &&& 255#32 = (x >>> n) &&& 255#32 := by
  apply BitVec.eq_of_getLsbD_eq
  intro i hi
  rw [BitVec.getLsbD_and, BitVec.getLsbD_and, BitVec.getLsbD_sshiftRight, BitVec.getLsbD_ushiftRight]
  by_cases h8 : i < 8
  · have h1 : decide (32 ≤ i) = false := decide_eq_false (by omega)
    rw [h1, if_pos (show n + i < 32 by omega)]
    rfl
  · have h2 : (255#32).getLsbD i = false := by
      have : ∀ i : Fin 32, 8 ≤ i.val → (255#32).getLsbD i.val = false := by decide
      exact this ⟨i, hi⟩ (by show 8 ≤ i; omega)
    rw [h2, Bool.and_false, Bool.and_false]
theorem sh_eq (c : Int32) {k : Int32} {n : Nat} (hn : n ≤ 24) (h1 : (k &&& 31).toBitVec.smod 32 = BitVec.ofNat 32 n) (h2 : (k.toUInt32 &&& Int32.toUInt32 31).toBitVec % 32 = BitVec.ofNat 32 n) : (c >>> (k &&& 31)) &&& 255 = mSh c k := by
  apply Int32.toBitVec_inj.mp
  unfold mSh
  rw [Int32.toBitVec_and, Int32.toBitVec_and, Int32.toBitVec_shiftRight, h1]
  show c.toBitVec.sshiftRight (BitVec.ofNat 32 n).toNat &&& 255#32 = (c.toUInt32 >>> (k.toUInt32 &&& Int32.toUInt32 31)).toBitVec &&& 255#32
  rw [UInt32.toBitVec_shiftRight, h2]
  have e : (BitVec.ofNat 32 n).toNat = n := by
    rw [BitVec.toNat_ofNat]
    omega
  show _ = c.toBitVec >>> (BitVec.ofNat 32 n).toNat &&& 255#32
  rw [e]
  exact bv_sh _ n hn
theorem sh24 (c : Int32) : (c >>> ((24 : Int32) &&& 31)) &&& 255 = mSh c 24 := sh_eq c (n := 24) (by decide) (by decide) (by decide)
theorem sh16 (c : Int32) : (c >>> ((16 : Int32) &&& 31)) &&& 255 = mSh c 16 := sh_eq c (n := 16) (by decide) (by decide) (by decide)
theorem sh8 (c : Int32) : (c >>> ((8 : Int32) &&& 31)) &&& 255 = mSh c 8 := sh_eq c (n := 8) (by decide) (by decide) (by decide)
theorem sh0 (c : Int32) : (c >>> ((0 : Int32) &&& 31)) &&& 255 = mSh c 0 := sh_eq c (n := 0) (by decide) (by decide) (by decide)
