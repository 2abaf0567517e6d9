/-- bytes of the layout ahead of field f, as a number -/
def bTn (t : Nat → Nat → Int32) (m : Nat) : Nat → Nat
  | 0 => 12
  | f + 1 => if 0 < t 8 (fI m f 0) then bTn t m f + nv (t 8 (fI m f 5)) * (3 + nv (t 8 (fI m f 3))) else bTn t m f
theorem bTn_le (t : Nat → Nat → Int32) (m : Nat) (g : Nat) : ∀ r : Nat, bTn t m g ≤ bTn t m (g + r)
  | 0 => Nat.le_refl _
  | r + 1 => by
    refine Nat.le_trans (bTn_le t m g r) ?_
    show bTn t m (g + r) ≤ bTn t m (g + r + 1)
    rw [bTn]
    split
    · exact Nat.le_add_right _ _
    · exact Nat.le_refl _
theorem mBO_n {t : Nat → Nat → Int32} {m f : Nat} (hf : FldI t m f) : mBO t m f = nI (nv (t 8 (fI m f 5)) * (3 + nv (t 8 (fI m f 3)))) := by
  unfold mBO
  have p5 := hf.1 5 (by decide)
  have p3 := hf.1 3 (by decide)
  rw [p5.1, p3.1]
  have b5 : fB 5 = 20 := rfl
  have b3 : fB 3 = 80 := rfl
  rw [nv_nI (by have := p5.2; omega), nv_nI (by have := p3.2; omega), show (3 : Int32) = nI 3 from rfl, nI_add, pk_mul]
theorem mBT_n {t : Nat → Nat → Int32} {m : Nat} : ∀ {n : Nat}, (∀ f, f < n → FldI t m f) → mBT t m n = nI (bTn t m n)
  | 0, _ => rfl
  | n + 1, h => by
    rw [mBT, bTn, mBT_n (fun f hf => h f (by omega)), mBO_n (h n (by omega)), nI_add]
    split <;> rfl
theorem mBT_c {t t' : Nat → Nat → Int32} {m : Nat} (h : t' 8 = t 8) : ∀ n : Nat, mBT t' m n = mBT t m n
  | 0 => rfl
  | n + 1 => by
    rw [mBT, mBT, mBT_c h n]
    unfold mBO
    rw [h]
theorem mul_le2 {a b c d : Nat} (h : a ≤ c) (k : b ≤ d) : a * b ≤ c * d := Nat.mul_le_mul h k
theorem bTn_b {t : Nat → Nat → Int32} {m : Nat} : ∀ {n : Nat}, (∀ f, f < n → FldI t m f) → bTn t m n ≤ 12 + n * 1660
  | 0, _ => by show 12 ≤ _; omega
  | n + 1, h => by
    have ih := bTn_b (t := t) (m := m) (n := n) (fun f hf => h f (by omega))
    have hf := h n (by omega)
    have p5 := (hf.1 5 (by decide)).2
    have p3 := (hf.1 3 (by decide)).2
    have b5 : fB 5 = 20 := rfl
    have b3 : fB 3 = 80 := rfl
    have hm : nv (t 8 (fI m n 5)) * (3 + nv (t 8 (fI m n 3))) ≤ 1660 := Nat.le_trans (mul_le2 (c := 20) (d := 83) (by omega) (by omega)) (by decide)
    rw [bTn, Nat.succ_mul]
    generalize nv (t 8 (fI m n 5)) * (3 + nv (t 8 (fI m n 3))) = z at hm ⊢
    generalize n * 1660 = y at ih ⊢
    split
    · omega
    · omega
def mTK (t : Nat → Nat → Int32) (m f : Nat) : Nat → Nat → Int32 → Int32
  | 0, _, g => g
  | r + 1, a, g => mTK t m f r (a + 3 + nv (t 8 (fI m f 3))) (if mGood t m f a = true then g + 1 else g)
def mTF (t : Nat → Nat → Int32) (m : Nat) : Nat → Nat → Nat → Int32 → Int32
  | 0, _, _, g => g
  | r + 1, f, a, g => if 0 < t 8 (fI m f 0) then mTF t m r (f + 1) (a + nv (t 8 (fI m f 5)) * (3 + nv (t 8 (fI m f 3)))) (mTK t m f (nv (t 8 (fI m f 5))) a g) else mTF t m r (f + 1) a g
/-- how many came, once this map's byte is next -/
def mTc (s : Nat → Int32) (map : Int32) : Nat := if s 24 = map ∧ s 25 = s 10 then nv (s 23) else 0
def mTt (s : Nat → Int32) (t : Nat → Nat → Int32) (map x : Int32) : Nat → Nat → Int32 := va_up t 11 (upd (t 11) (mTc s map) (x &&& 255))
def mTs (s : Nat → Int32) (map c : Int32) : Nat → Int32 := upd (upd (upd (upd s 0 0) 24 map) 25 (s 10)) 23 c
def mTake (s : Nat → Int32) (t : Nat → Nat → Int32) (map x : Int32) : Int32 × (Nat → Int32) × (Nat → Nat → Int32) := match mHandO s t map with
  | none => (-2, upd s 0 0, t)
  | some m => if mTc s map + 1 < bTn t m (nv (t 7 m)) then (-1, mTs s map (nI (mTc s map + 1)), mTt s t map x) else (mTF (mTt s t map x) m (nv (t 7 m)) 0 12 0, mTs s map 0, mTt s t map x)
theorem m_546 (d : Nat) {b : Nat} {h0 h : im_H} {s : Nat → Int32} {t : Nat → Nat → Int32} (hM : MM b h0 h s t) (hI : MI s t) (h23 : ps (s 23) 4095) (hcm : ∀ j, j < nv (s 23) → ps (t 11 j) 255) {map x : Int32} (Q : Option Value → im_H → Prop) (k : ∀ h', MM b h0 h' (mTake s t map x).2.1 (mTake s t map x).2.2 → Q (some (.int (mTake s t map x).1)) h') : gC (gD (d + 4)) 546 [.ref b, .int map, .int x] h Q := by
  refine gC.of (q := me_546.2) rfl (Nat.le_of_ble_eq_true rfl) rfl ?_
  iterate 2 refine gG.step (cd := cd_546) rfl (fun _ => rfl) ?_
  refine mPut hM rfl (by decide) rfl rfl rfl (fun h hM => ?_)
  have hI1 : MI (upd s 0 0) t := hI
  iterate 2 refine gG.step rfl (fun _ => rfl) ?_
  refine mVir hM rfl rfl rfl (Nat.le_of_ble_eq_true rfl) rfl rfl (Nat.le_of_ble_eq_true rfl) ?_
  refine m_535' (d + 1) hM hI1 _ ?_
  show gG _ _ _ _ 10 _ [Value.int (oI (mHandO s t map))] h Q
  unfold mTake at k
  cases ho : mHandO s t map with
  | none =>
    rw [ho] at k
    iterate 2 refine gG.step rfl (fun _ => rfl) ?_
    refine gG.ifc (tgt := 18) rfl rfl (fun c => absurd c (by decide)) (fun _ => ?_)
    refine gG.step rfl (fun _ => rfl) ?_
    exact gG.done rfl (fun _ => rfl) (k h hM)
  | some m =>
    rw [ho] at k
    dsimp only at k
    obtain ⟨hm, hmi, -⟩ := mHandO_some (s := upd s 0 0) hI1 ho
    have hn := hmi.2.2.2.1
    have hn30 := hn.2
    have hfs := hmi.2.2.2.2
    refine gG.step (L' := [some (.ref b), some (.int map), some (.int x), some (.int (nI m)), none, none, none, none]) rfl (fun _ => rfl) ?_
    refine gG.step rfl (fun _ => rfl) ?_
    refine gG.ifc (tgt := 18) rfl rfl (fun _ => ?_) (fun c => absurd (c_gen (by omega)) c)
    have hcb : mTc s map ≤ 4095 := by
      unfold mTc
      split
      · exact h23.2
      · omega
    have hcame : ∀ j, j < mTc s map + 1 → ps (mTt s t map x 11 j) 255 := by
      intro j hj
      unfold mTt
      rw [va_up_self]
      unfold upd
      split
      · obtain ⟨q, hq, he⟩ := pk_andE x (m := 255) 8 (by decide)
        rw [he]
        exact ps.nI (by omega) (by decide)
      · apply hcm
        unfold mTc at hj
        rename_i hne
        unfold mTc at hne
        split at hj
        · rw [if_pos (by assumption)] at hne
          omega
        · rw [if_neg (by assumption)] at hne
          omega
    have rest : ∀ (h : im_H) (s1 : Nat → Int32), MM b h0 h s1 t → s1 23 = nI (mTc s map) → s1 10 = s 10 → (∀ c, mF b (upd (upd (upd s1 24 map) 25 (s 10)) 23 c) = mF b (mTs s map c)) → gG tb_T (gD (d + 3)) (some .int) cd_546 42 [some (.ref b), some (.int map), some (.int x), some (.int (nI m)), none, none, none, none] [] h Q := by
      intro h s1 hM e23 e10 eF
      iterate 2 refine gG.step rfl (fun _ => rfl) ?_
      refine mPut hM rfl (by decide) rfl rfl rfl (fun h hM => ?_)
      iterate 2 refine gG.step rfl (fun _ => rfl) ?_
      refine mGet hM rfl rfl ?_
      show gG _ _ _ _ 52 _ [Value.int (s1 10), Value.ref b] h Q
      rw [e10]
      refine mPut hM rfl (by decide) rfl rfl rfl (fun h hM => ?_)
      refine gG.step rfl (fun _ => rfl) ?_
      refine mGet hM rfl rfl ?_
      refine gG.step rfl (fun _ => rfl) ?_
      refine mGet hM rfl rfl ?_
      iterate 3 refine gG.step rfl (fun _ => rfl) ?_
      refine mAst (j := 11) (n := mTc s map) hM rfl (by decide) (by decide) e23 (show mTc s map < 4096 by omega) (fun h hM => ?_)
      have hM : MM b h0 h (upd (upd s1 24 map) 25 (s 10)) (mTt s t map x) := hM
      iterate 2 refine gG.step rfl (fun _ => rfl) ?_
      refine mGet hM rfl rfl ?_
      show gG _ _ _ _ 74 _ [Value.int (s1 23), Value.ref b] h Q
      rw [e23]
      iterate 2 refine gG.step rfl (fun _ => rfl) ?_
      have e1 : nI (mTc s map) + 1 = nI (mTc s map + 1) := nI_1 _
      show gG _ _ _ _ 76 _ [Value.int (nI (mTc s map) + 1), Value.ref b] h Q
      rw [e1]
      refine mPut hM rfl (by decide) rfl rfl rfl (fun h hM => ?_)
      refine gG.step rfl (fun _ => rfl) ?_
      refine mGet hM rfl rfl ?_
      show gG _ _ _ _ 83 _ [Value.int (nI (mTc s map + 1))] h Q
      iterate 3 refine gG.step rfl (fun _ => rfl) ?_
      refine mGet hM rfl rfl ?_
      refine gG.step rfl (fun _ => rfl) ?_
      refine mAld (j := 7) (n := m) hM rfl (by decide) (by decide) rfl (show m < 48 from hm) ?_
      show gG _ _ _ _ 91 _ [Value.int (t 7 m), Value.int (nI m), Value.ref b, Value.int (nI (mTc s map + 1))] h Q
      rw [hn.1]
      refine mVir hM rfl rfl rfl (Nat.le_of_ble_eq_true rfl) rfl rfl (Nat.le_of_ble_eq_true rfl) ?_
      refine m_538 d hM hm hn.2 _ ?_
      have et : mBT (mTt s t map x) m (nv (t 7 m)) = nI (bTn t m (nv (t 7 m))) := (mBT_c (t := t) (t' := mTt s t map x) rfl _).trans (mBT_n (t := t) hfs)
      show gG _ _ _ _ 94 _ [Value.int (mBT (mTt s t map x) m (nv (t 7 m))), Value.int (nI (mTc s map + 1))] h Q
      rw [et]
      have hbb := bTn_b hfs
      by_cases hlt : mTc s map + 1 < bTn t m (nv (t 7 m))
      · rw [if_pos hlt] at k
        refine gG.icmp (tgt := 99) rfl rfl (fun c => absurd ((c_ge (by omega) (by omega)).mp c) (by omega)) (fun _ => ?_)
        refine gG.step rfl (fun _ => rfl) ?_
        refine gG.done rfl (fun _ => rfl) (k h ?_)
        obtain ⟨g1, g2, g3⟩ := hM
        exact ⟨g1, by rw [g2, eF], g3⟩
      · rw [if_neg hlt] at k
        refine gG.icmp (tgt := 99) rfl rfl (fun _ => ?_) (fun c => absurd ((c_ge (by omega) (by omega)).mpr (by omega)) c)
        iterate 2 refine gG.step rfl (fun _ => rfl) ?_
        refine mPut hM rfl (by decide) rfl rfl rfl (fun h hM => ?_)
        have hM : MM b h0 h (mTs s map 0) (mTt s t map x) := by
          obtain ⟨g1, g2, g3⟩ := hM
          exact ⟨g1, by rw [g2, ← eF]; rfl, g3⟩
        have k := k h hM
        have hk : ∀ f w, mTt s t map x 8 (fI m f w) = t 8 (fI m f w) := fun _ _ => rfl
        iterate 6 refine gG.step rfl (fun _ => rfl) ?_
        have key : ∀ (r f : Nat) (g : Int32) (x7 : Option Value), f + r = nv (t 7 m) → Q (some (.int (mTF (mTt s t map x) m r f (bTn t m f) g))) h → gG tb_T (gD (d + 3)) (some .int) cd_546 114 [some (.ref b), some (.int map), some (.int x), some (.int (nI m)), some (.int g), some (.int (nI (bTn t m f))), some (.int (nI f)), x7] [] h Q := by
          intro r
          induction r with
          | zero =>
            intro f g x7 hf hq
            have hf : f = nv (t 7 m) := by omega
            subst hf
            iterate 2 refine gG.step rfl (fun _ => rfl) ?_
            refine mGet hM rfl rfl ?_
            refine gG.step rfl (fun _ => rfl) ?_
            refine mAld (j := 7) (n := m) hM rfl (by decide) (by decide) rfl (show m < 48 from hm) ?_
            show gG _ _ _ _ 122 _ [Value.int (t 7 m), Value.int (nI (nv (t 7 m)))] h Q
            rw [← hn.1]
            refine gG.icmp (tgt := 194) rfl rfl (fun _ => ?_) (fun c => absurd (decide_eq_true (Int32.le_refl _)) c)
            refine gG.step rfl (fun _ => rfl) ?_
            exact gG.done rfl (fun _ => rfl) (hq)
          | succ r ih =>
            intro f g x7 hf hq
            have hf30 : f < 30 := by omega
            have hfi := hfs f (by omega)
            have p5 := hfi.1 5 (by decide)
            have p3 := hfi.1 3 (by decide)
            have b5 : fB 5 = 20 := rfl
            have b3 : fB 3 = 80 := rfl
            have p5b := p5.2
            have p3b := p3.2
            iterate 2 refine gG.step rfl (fun _ => rfl) ?_
            refine mGet hM rfl rfl ?_
            refine gG.step rfl (fun _ => rfl) ?_
            refine mAld (j := 7) (n := m) hM rfl (by decide) (by decide) rfl (show m < 48 from hm) ?_
            show gG _ _ _ _ 122 _ [Value.int (t 7 m), Value.int (nI f)] h Q
            rw [hn.1]
            refine gG.icmp (tgt := 194) rfl rfl (fun z => absurd ((c_ge (by omega) (by omega)).mp z) (by omega)) (fun _ => ?_)
            refine gG.step rfl (fun _ => rfl) ?_
            refine gG.step (L' := [some (.ref b), some (.int map), some (.int x), some (.int (nI m)), some (.int g), some (.int (nI (bTn t m f))), some (.int (nI f)), some (.int (nI 0))]) rfl (fun _ => rfl) ?_
            rw [mTF] at hq
            by_cases hname : 0 < t 8 (fI m f 0)
            · rw [if_pos (show 0 < mTt s t map x 8 (fI m f 0) from hname)] at hq
              have e5 : mTt s t map x 8 (fI m f 5) = t 8 (fI m f 5) := rfl
              have e3 : mTt s t map x 8 (fI m f 3) = t 8 (fI m f 3) := rfl
              rw [e5, e3] at hq
              have htot : bTn t m (f + 1) = bTn t m f + nv (t 8 (fI m f 5)) * (3 + nv (t 8 (fI m f 3))) := by rw [bTn, if_pos hname]
              have hle : bTn t m (f + 1) ≤ bTn t m (nv (t 7 m)) := by
                have := bTn_le t m (f + 1) r
                rw [show f + 1 + r = nv (t 7 m) by omega] at this
                exact this
              have key2 : ∀ (r2 i : Nat) (g2 : Int32), i + r2 = nv (t 8 (fI m f 5)) → mTK (mTt s t map x) m f r2 (bTn t m f + i * (3 + nv (t 8 (fI m f 3)))) g2 = mTK (mTt s t map x) m f (nv (t 8 (fI m f 5))) (bTn t m f) g → gG tb_T (gD (d + 3)) (some .int) cd_546 128 [some (.ref b), some (.int map), some (.int x), some (.int (nI m)), some (.int g2), some (.int (nI (bTn t m f + i * (3 + nv (t 8 (fI m f 3)))))), some (.int (nI f)), some (.int (nI i))] [] h Q := by
                intro r2
                induction r2 with
                | zero =>
                  intro i g2 hi hg
                  have hi : i = nv (t 8 (fI m f 5)) := by omega
                  iterate 5 refine gG.step rfl (fun _ => rfl) ?_
                  refine mVir hM rfl rfl rfl (Nat.le_of_ble_eq_true rfl) rfl rfl (Nat.le_of_ble_eq_true rfl) ?_
                  refine m_519 (d + 2) hM hm hf30 (show 5 < 14 by decide) _ ?_
                  show gG _ _ _ _ 138 _ [Value.int (t 8 (fI m f 5)), Value.int (nI i)] h Q
                  rw [p5.1]
                  refine gG.icmp (tgt := 188) rfl rfl (fun _ => ?_) (fun c => absurd ((c_ge (by omega) (by omega)).mpr (by omega)) c)
                  refine gG.step rfl (fun _ => rfl) ?_
                  refine gG.goto (tgt := 114) rfl rfl ?_
                  rw [mTK] at hg
                  subst hi
                  rw [← hg, ← htot] at hq
                  have ih1 := ih (f + 1) g2 (some (.int (nI (nv (t 8 (fI m f 5)))))) (by omega) hq
                  rw [← nI_1 f, htot] at ih1
                  exact ih1
                | succ r2 ih2 =>
                  intro i g2 hi hg
                  have hmul : (i + 1) * (3 + nv (t 8 (fI m f 3))) ≤ nv (t 8 (fI m f 5)) * (3 + nv (t 8 (fI m f 3))) := Nat.mul_le_mul_right _ (by omega)
                  have hexp : (i + 1) * (3 + nv (t 8 (fI m f 3))) = i * (3 + nv (t 8 (fI m f 3))) + (3 + nv (t 8 (fI m f 3))) := Nat.succ_mul _ _
                  iterate 5 refine gG.step rfl (fun _ => rfl) ?_
                  refine mVir hM rfl rfl rfl (Nat.le_of_ble_eq_true rfl) rfl rfl (Nat.le_of_ble_eq_true rfl) ?_
                  refine m_519 (d + 2) hM hm hf30 (show 5 < 14 by decide) _ ?_
                  show gG _ _ _ _ 138 _ [Value.int (t 8 (fI m f 5)), Value.int (nI i)] h Q
                  rw [p5.1]
                  refine gG.icmp (tgt := 188) rfl rfl (fun z => absurd ((c_ge (by omega) (by omega)).mp z) (by omega)) (fun _ => ?_)
                  iterate 4 refine gG.step rfl (fun _ => rfl) ?_
                  refine mVir hM rfl rfl rfl (Nat.le_of_ble_eq_true rfl) rfl rfl (Nat.le_of_ble_eq_true rfl) ?_
                  refine m_519 (d + 2) hM hm hf30 (show 0 < 14 by decide) _ ?_
                  show gG _ _ _ _ 149 _ [Value.int (t 8 (fI m f 0))] h Q
                  refine gG.ifc (tgt := 188) rfl rfl (fun c => absurd hname (Int32.not_lt.mpr (of_decide_eq_true c))) (fun _ => ?_)
                  iterate 4 refine gG.step rfl (fun _ => rfl) ?_
                  refine mVir hM rfl rfl rfl (Nat.le_of_ble_eq_true rfl) rfl rfl (Nat.le_of_ble_eq_true rfl) ?_
                  refine m_545 (d + 1) hM hm hf30 p3 (show _ + 3 + nv (t 8 (fI m f 3)) ≤ 4096 by omega) (hcame _ (by omega)) (hcame _ (by omega)) _ ?_
                  rw [mTK] at hg
                  have fin2 : ∀ g3 : Int32, (if mGood (mTt s t map x) m f (bTn t m f + i * (3 + nv (t 8 (fI m f 3)))) = true then g2 + 1 else g2) = g3 → gG tb_T (gD (d + 3)) (some .int) cd_546 167 [some (.ref b), some (.int map), some (.int x), some (.int (nI m)), some (.int g3), some (.int (nI (bTn t m f + i * (3 + nv (t 8 (fI m f 3)))))), some (.int (nI f)), some (.int (nI i))] [] h Q := by
                    intro g3 hg3
                    rw [hg3, e3, show bTn t m f + i * (3 + nv (t 8 (fI m f 3))) + 3 + nv (t 8 (fI m f 3)) = bTn t m f + (i + 1) * (3 + nv (t 8 (fI m f 3))) by omega] at hg
                    iterate 6 refine gG.step rfl (fun _ => rfl) ?_
                    refine mVir hM rfl rfl rfl (Nat.le_of_ble_eq_true rfl) rfl rfl (Nat.le_of_ble_eq_true rfl) ?_
                    refine m_519 (d + 2) hM hm hf30 (show 3 < 14 by decide) _ ?_
                    show gG _ _ _ _ 178 _ [Value.int (t 8 (fI m f 3)), Value.int 3, Value.int (nI (bTn t m f + i * (3 + nv (t 8 (fI m f 3)))))] h Q
                    iterate 2 refine gG.step rfl (fun _ => rfl) ?_
                    have ee : nI (bTn t m f + i * (3 + nv (t 8 (fI m f 3)))) + (3 + t 8 (fI m f 3)) = nI (bTn t m f + (i + 1) * (3 + nv (t 8 (fI m f 3)))) := by
                      rw [p3.1, nv_nI (by omega), show (3 : Int32) = nI 3 from rfl, nI_add, nI_add]
                      congr 1
                      omega
                    show gG _ _ _ _ 180 _ [Value.int (nI (bTn t m f + i * (3 + nv (t 8 (fI m f 3)))) + (3 + t 8 (fI m f 3)))] h Q
                    rw [ee]
                    iterate 2 refine gG.step rfl (fun _ => rfl) ?_
                    refine gG.goto (tgt := 128) rfl rfl ?_
                    have ih3 := ih2 (i + 1) g3 (by omega) hg
                    rw [← nI_1 i] at ih3
                    exact ih3
                  show gG _ _ _ _ 161 _ [Value.int (bI (mGood (mTt s t map x) m f (bTn t m f + i * (3 + nv (t 8 (fI m f 3))))))] h Q
                  cases hgd : mGood (mTt s t map x) m f (bTn t m f + i * (3 + nv (t 8 (fI m f 3)))) with
                  | true =>
                    refine gG.ifc (tgt := 167) rfl rfl (fun c => absurd c (by decide)) (fun _ => ?_)
                    refine gG.step rfl (fun _ => rfl) ?_
                    exact fin2 (g2 + 1) (by rw [hgd]; rfl)
                  | false =>
                    refine gG.ifc (tgt := 167) rfl rfl (fun _ => ?_) (fun c => absurd (by decide) c)
                    exact fin2 g2 (by rw [hgd]; rfl)
              have := key2 (nv (t 8 (fI m f 5))) 0 g (by omega) (by rw [Nat.zero_mul, Nat.add_zero])
              rw [Nat.zero_mul, Nat.add_zero] at this
              exact this
            · rw [if_neg (show ¬ 0 < mTt s t map x 8 (fI m f 0) from hname)] at hq
              have htot : bTn t m (f + 1) = bTn t m f := by rw [bTn, if_neg hname]
              have hone : 1 ≤ nv (t 8 (fI m f 5)) := hfi.2.2.1
              iterate 5 refine gG.step rfl (fun _ => rfl) ?_
              refine mVir hM rfl rfl rfl (Nat.le_of_ble_eq_true rfl) rfl rfl (Nat.le_of_ble_eq_true rfl) ?_
              refine m_519 (d + 2) hM hm hf30 (show 5 < 14 by decide) _ ?_
              show gG _ _ _ _ 138 _ [Value.int (t 8 (fI m f 5)), Value.int (nI 0)] h Q
              rw [p5.1]
              refine gG.icmp (tgt := 188) rfl rfl (fun z => absurd ((c_ge (by omega) (by omega)).mp z) (by omega)) (fun _ => ?_)
              iterate 4 refine gG.step rfl (fun _ => rfl) ?_
              refine mVir hM rfl rfl rfl (Nat.le_of_ble_eq_true rfl) rfl rfl (Nat.le_of_ble_eq_true rfl) ?_
              refine m_519 (d + 2) hM hm hf30 (show 0 < 14 by decide) _ ?_
              show gG _ _ _ _ 149 _ [Value.int (t 8 (fI m f 0))] h Q
              refine gG.ifc (tgt := 188) rfl rfl (fun _ => ?_) (fun c => absurd (decide_eq_true (Int32.not_lt.mp hname)) c)
              refine gG.step rfl (fun _ => rfl) ?_
              refine gG.goto (tgt := 114) rfl rfl ?_
              rw [← htot] at hq
              have ih1 := ih (f + 1) g (some (.int (nI 0))) (by omega) hq
              rw [← nI_1 f, htot] at ih1
              exact ih1
        exact key (nv (t 7 m)) 0 0 none (by omega) k
    refine gG.step rfl (fun _ => rfl) ?_
    refine mGet hM rfl rfl ?_
    show gG _ _ _ _ 22 _ [Value.int (s 24)] h Q
    refine gG.step rfl (fun _ => rfl) ?_
    have reset : ¬ (s 24 = map ∧ s 25 = s 10) → gG tb_T (gD (d + 3)) (some .int) cd_546 37 [some (.ref b), some (.int map), some (.int x), some (.int (nI m)), none, none, none, none] [] h Q := by
      intro hne
      iterate 2 refine gG.step rfl (fun _ => rfl) ?_
      refine mPut hM rfl (by decide) rfl rfl rfl (fun h hM => ?_)
      refine rest h _ hM ?_ rfl (fun c => rfl)
      show (0 : Int32) = nI (mTc s map)
      unfold mTc
      rw [if_neg hne]
      rfl
    refine gG.icmp (tgt := 37) rfl rfl (fun c1 => ?_) (fun c1 => ?_)
    · exact reset (fun z => c_ne.mp c1 z.1)
    · refine gG.step rfl (fun _ => rfl) ?_
      refine mGet hM rfl rfl ?_
      refine gG.step rfl (fun _ => rfl) ?_
      refine mGet hM rfl rfl ?_
      show gG _ _ _ _ 34 _ [Value.int (s 10), Value.int (s 25)] h Q
      refine gG.icmp (tgt := 42) rfl rfl (fun c2 => ?_) (fun c2 => ?_)
      · have hyes : s 24 = map ∧ s 25 = s 10 := ⟨Decidable.not_not.mp (fun z => c1 (c_ne.mpr z)), c_ee.mp c2⟩
        refine rest h _ hM ?_ rfl (fun c => rfl)
        show s 23 = nI (mTc s map)
        unfold mTc
        rw [if_pos hyes]
        exact h23.1
      · exact reset (fun z => c2 (c_ee.mpr z.2))
