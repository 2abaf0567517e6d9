theorem MM.arr {b : Nat} {h0 h : im_H} {s : Nat → Int32} {t t' : Nat → Nat → Int32} (hM : MM b h0 h s t) (e : ∀ j, 1 ≤ j → j ≤ 12 → t j = t' j) : MM b h0 h s t' := by
  obtain ⟨g1, g2, g3⟩ := hM
  refine ⟨g1, g2, fun j a c => ?_⟩
  rw [g3 j a c, e j a c]
theorem up2 (t : Nat → Nat → Int32) (i : Nat) (f g : Nat → Int32) : ∀ j, 1 ≤ j → j ≤ 12 → va_up (va_up t i f) i g j = va_up t i g j := by
  intro j _ _
  by_cases hj : j = i
  · subst hj
    rw [va_up_self, va_up_self]
  · rw [va_up_ne _ _ hj, va_up_ne _ _ hj, va_up_ne _ _ hj]
/-- noughts from n on, r of them -/
def mZF : Nat → Nat → (Nat → Int32) → (Nat → Int32)
  | 0, _, g => g
  | r + 1, n, g => mZF r (n + 1) (upd g n 48)
def mV (v : Int32) : Int64 := if 0 ≤ v then v.toInt64 else -v.toInt64
/-- the spelling of a field, last place first: how many, and the signs -/
def mFl (t : Nat → Nat → Int32) (m f : Nat) (v : Int32) : Nat × (Nat → Int32) :=
  let l := nv (t 8 (fI m f 3))
  let sp := mSpell (mV v) (nv (t 8 (fI m f 7))) l (t 12)
  if t 8 (fI m f 11) = 1 then (l, if ¬ 0 ≤ v ∧ mZF (l - sp.1) sp.1 sp.2 (l - 1) = 48 then upd (mZF (l - sp.1) sp.1 sp.2) (l - 1) 45 else mZF (l - sp.1) sp.1 sp.2)
  else if ¬ 0 ≤ v ∧ sp.1 < l then (sp.1 + 1, upd sp.2 sp.1 45) else sp
/-- where the spelling begins -/
def mFr (t : Nat → Nat → Int32) (m f : Nat) (n : Nat) : Nat := if t 8 (fI m f 10) = 1 then nv (t 8 (fI m f 3)) - n else 0
/-- the edited bytes: the first k of them -/
def mEd (fr n : Nat) (g e0 : Nat → Int32) : Nat → (Nat → Int32)
  | 0 => e0
  | k + 1 => upd (mEd fr n g e0 k) k (if fr ≤ k ∧ k < fr + n then g (n - 1 - (k - fr)) else 32)
def mFill (s : Nat → Int32) (t : Nat → Nat → Int32) (map field v : Int32) : Int32 × (Nat → Int32) × (Nat → Nat → Int32) := match mHandO s t map with
  | none => (-2, upd s 0 0, t)
  | some m => match mFldO t m field with
    | none => (-2, upd s 0 0, t)
    | some f => (t 8 (fI m f 3), upd (upd s 0 0) 21 (t 8 (fI m f 3)), va_up (va_up t 12 (mFl t m f v).2) 10 (mEd (mFr t m f (mFl t m f v).1) (mFl t m f v).1 (mFl t m f v).2 (t 10) (nv (t 8 (fI m f 3)))))
theorem mSW_le : ∀ (r : Nat) (w : Int64) (n : Nat) (g : Nat → Int32), (mSW r w n g).1 ≤ n + r
  | 0, _, n, _ => Nat.le_refl _
  | r + 1, w, n, g => by
    rw [mSW]
    split
    · show n + 1 ≤ _
      omega
    · have := mSW_le r (w / 10) (n + 1) (upd g n (mDg w))
      omega
theorem mSpell_le (v : Int64) (dc pl : Nat) (g : Nat → Int32) (h : dc = 0 ∨ dc < pl) : (mSpell v dc pl g).1 ≤ pl := by
  unfold mSpell
  split
  · have := mSW_le pl v 0 g
    omega
  · have := mSW_le (pl - (dc + 1)) (mSD dc v 0 g).1 (dc + 1) (upd (mSD dc v 0 g).2.2 dc 46)
    omega
theorem mFl_le (t : Nat → Nat → Int32) (m f : Nat) (v : Int32) (hf : FldI t m f) : (mFl t m f v).1 ≤ nv (t 8 (fI m f 3)) := by
  unfold mFl
  dsimp only
  have := mSpell_le (mV v) (nv (t 8 (fI m f 7))) (nv (t 8 (fI m f 3))) (t 12) hf.2.2.2.2.1
  split
  · exact Nat.le_refl _
  · split
    · rename_i h
      exact h.2
    · exact this
theorem m_543 (d : Nat) {b : Nat} {h0 h : im_H} {s : Nat → Int32} {t : Nat → Nat → Int32} (hM : MM b h0 h s t) (hI : MI s t) {map field v : Int32} (Q : Option Value → im_H → Prop) (k : ∀ h', MM b h0 h' (mFill s t map field v).2.1 (mFill s t map field v).2.2 → Q (some (.int (mFill s t map field v).1)) h') : gC (gD (d + 3)) 543 [.ref b, .int map, .int field, .int v] h Q := by
  refine gC.of (q := me_543.2) rfl (Nat.le_of_ble_eq_true rfl) rfl ?_
  iterate 2 refine gG.step (cd := cd_543) rfl (fun _ => rfl) ?_
  refine mPut hM rfl (by decide) rfl rfl rfl (fun h hM => ?_)
  have hI1 : MI (upd s 0 0) t := hI
  iterate 2 refine gG.step rfl (fun _ => rfl) ?_
  refine mVir hM rfl rfl rfl (Nat.le_of_ble_eq_true rfl) rfl rfl (Nat.le_of_ble_eq_true rfl) ?_
  refine m_535' d hM hI1 _ ?_
  show gG _ _ _ _ 10 _ [Value.int (oI (mHandO s t map))] h Q
  unfold mFill at k
  cases ho : mHandO s t map with
  | none =>
    rw [ho] at k
    iterate 2 refine gG.step rfl (fun _ => rfl) ?_
    refine gG.ifc (tgt := 21) rfl rfl (fun c => absurd c (by decide)) (fun _ => ?_)
    refine gG.step rfl (fun _ => rfl) ?_
    refine gG.goto (tgt := 28) rfl rfl ?_
    iterate 2 refine gG.step rfl (fun _ => rfl) ?_
    refine gG.ifc (tgt := 38) rfl rfl (fun c => absurd c (by decide)) (fun _ => ?_)
    refine gG.step rfl (fun _ => rfl) ?_
    exact gG.done rfl (fun _ => rfl) (k h hM)
  | some m =>
    rw [ho] at k
    dsimp only at k
    obtain ⟨hm, hmi, -⟩ := mHandO_some (s := upd s 0 0) hI1 ho
    have hn := hmi.2.2.2.1
    refine gG.step (L' := [some (.ref b), some (.int map), some (.int field), some (.int v), some (.int (nI m)), none, none, none, none, none, none]) rfl (fun _ => rfl) ?_
    refine gG.step rfl (fun _ => rfl) ?_
    refine gG.ifc (tgt := 21) rfl rfl (fun _ => ?_) (fun c => absurd (c_gen (by omega)) c)
    iterate 3 refine gG.step rfl (fun _ => rfl) ?_
    refine mVir hM rfl rfl rfl (Nat.le_of_ble_eq_true rfl) rfl rfl (Nat.le_of_ble_eq_true rfl) ?_
    refine m_521' d hM hm hn _ ?_
    show gG _ _ _ _ 28 _ [Value.int (oI (mFldO t m field))] h Q
    cases hf : mFldO t m field with
    | none =>
      rw [hf] at k
      iterate 2 refine gG.step rfl (fun _ => rfl) ?_
      refine gG.ifc (tgt := 38) rfl rfl (fun c => absurd c (by decide)) (fun _ => ?_)
      refine gG.step rfl (fun _ => rfl) ?_
      exact gG.done rfl (fun _ => rfl) (k h hM)
    | some f =>
      rw [hf] at k
      dsimp only at k
      obtain ⟨hf1, hf2, hf3⟩ := mFldO_some hf
      have hf30 : f < 30 := by have := hn.2; omega
      have hfi := hmi.2.2.2.2 f hf1
      have p3 := hfi.1 3 (by decide)
      have p7 := hfi.1 7 (by decide)
      have p0 := hfi.1 0 (by decide)
      have b3 : fB 3 = 80 := rfl
      have b7 : fB 7 = 9 := rfl
      have p3b := p3.2
      have p7b := p7.2
      have hl1 : 1 ≤ nv (t 8 (fI m f 3)) := hfi.2.2.2.1 (nv_pos p0 (fun z => by rw [← hf3, z] at hf2; exact absurd hf2 (by decide)))
      refine gG.step (L' := [some (.ref b), some (.int map), some (.int field), some (.int v), some (.int (nI m)), some (.int (nI f)), none, none, none, none, none]) rfl (fun _ => rfl) ?_
      refine gG.step rfl (fun _ => rfl) ?_
      refine gG.ifc (tgt := 38) rfl rfl (fun _ => ?_) (fun c => absurd (c_gen (by omega)) c)
      iterate 4 refine gG.step rfl (fun _ => rfl) ?_
      refine mVir hM rfl rfl rfl (Nat.le_of_ble_eq_true rfl) rfl rfl (Nat.le_of_ble_eq_true rfl) ?_
      refine m_519 (d + 1) hM hm hf30 (show 3 < 14 by decide) _ ?_
      show gG _ _ _ _ 47 _ [Value.int (t 8 (fI m f 3))] h Q
      obtain ⟨l, hl⟩ : ∃ l, l = nv (t 8 (fI m f 3)) := ⟨_, rfl⟩
      have hl3 : t 8 (fI m f 3) = nI l := by rw [hl]; exact p3.1
      rw [← hl] at hl1 p3b
      refine gG.step (L' := [some (.ref b), some (.int map), some (.int field), some (.int v), some (.int (nI m)), some (.int (nI f)), some (.int (t 8 (fI m f 3))), none, none, none, none]) rfl (fun _ => rfl) ?_
      rw [hl3]
      iterate 4 refine gG.step rfl (fun _ => rfl) ?_
      refine mVir hM rfl rfl rfl (Nat.le_of_ble_eq_true rfl) rfl rfl (Nat.le_of_ble_eq_true rfl) ?_
      refine m_519 (d + 1) hM hm hf30 (show 11 < 14 by decide) _ ?_
      show gG _ _ _ _ 59 _ [Value.int (t 8 (fI m f 11))] h Q
      refine gG.step rfl (fun _ => rfl) ?_
      obtain ⟨nz, hnz⟩ : ∃ nz : Bool, nz = decide (t 8 (fI m f 11) = 1) := ⟨_, rfl⟩
      have at68 : gG tb_T (gD (d + 2)) (some .int) cd_543 68 [some (.ref b), some (.int map), some (.int field), some (.int v), some (.int (nI m)), some (.int (nI f)), some (.int (nI l)), none, none, none, none] [.int (bI nz)] h Q := by
        refine gG.step (L' := [some (.ref b), some (.int map), some (.int field), some (.int v), some (.int (nI m)), some (.int (nI f)), some (.int (nI l)), some (.int (bI nz)), none, none, none]) rfl (fun _ => rfl) ?_
        iterate 2 refine gG.step rfl (fun _ => rfl) ?_
        have at83 : gG tb_T (gD (d + 2)) (some .int) cd_543 83 [some (.ref b), some (.int map), some (.int field), some (.int v), some (.int (nI m)), some (.int (nI f)), some (.int (nI l)), some (.int (bI nz)), none, none, none] [.long (mV v), .ref b] h Q := by
          iterate 4 refine gG.step rfl (fun _ => rfl) ?_
          refine mVir hM rfl rfl rfl (Nat.le_of_ble_eq_true rfl) rfl rfl (Nat.le_of_ble_eq_true rfl) ?_
          refine m_519 (d + 1) hM hm hf30 (show 7 < 14 by decide) _ ?_
          show gG _ _ _ _ 93 _ [Value.int (t 8 (fI m f 7)), Value.long (mV v), Value.ref b] h Q
          rw [p7.1]
          refine gG.step rfl (fun _ => rfl) ?_
          refine mVir hM rfl rfl rfl (Nat.le_of_ble_eq_true rfl) rfl rfl (Nat.le_of_ble_eq_true rfl) ?_
          refine m_542 (d + 1) hM (by omega) (by omega) _ (fun h hM => ?_)
          show gG _ _ _ _ 98 _ [Value.int (nI (mSpell (mV v) (nv (t 8 (fI m f 7))) l (t 12)).1)] h Q
          have hspl : (mSpell (mV v) (nv (t 8 (fI m f 7))) l (t 12)).1 ≤ l := mSpell_le _ _ _ _ (by rw [hl]; exact hfi.2.2.2.2.1)
          have hFl : mFl t m f v = (if t 8 (fI m f 11) = 1 then (l, if ¬ 0 ≤ v ∧ mZF (l - (mSpell (mV v) (nv (t 8 (fI m f 7))) l (t 12)).1) (mSpell (mV v) (nv (t 8 (fI m f 7))) l (t 12)).1 (mSpell (mV v) (nv (t 8 (fI m f 7))) l (t 12)).2 (l - 1) = 48 then upd (mZF (l - (mSpell (mV v) (nv (t 8 (fI m f 7))) l (t 12)).1) (mSpell (mV v) (nv (t 8 (fI m f 7))) l (t 12)).1 (mSpell (mV v) (nv (t 8 (fI m f 7))) l (t 12)).2) (l - 1) 45 else mZF (l - (mSpell (mV v) (nv (t 8 (fI m f 7))) l (t 12)).1) (mSpell (mV v) (nv (t 8 (fI m f 7))) l (t 12)).1 (mSpell (mV v) (nv (t 8 (fI m f 7))) l (t 12)).2) else if ¬ 0 ≤ v ∧ (mSpell (mV v) (nv (t 8 (fI m f 7))) l (t 12)).1 < l then ((mSpell (mV v) (nv (t 8 (fI m f 7))) l (t 12)).1 + 1, upd (mSpell (mV v) (nv (t 8 (fI m f 7))) l (t 12)).2 (mSpell (mV v) (nv (t 8 (fI m f 7))) l (t 12)).1 45) else mSpell (mV v) (nv (t 8 (fI m f 7))) l (t 12)) := by
            unfold mFl
            rw [hl]
          generalize mSpell (mV v) (nv (t 8 (fI m f 7))) l (t 12) = sp at hspl hFl hM ⊢
          obtain ⟨n, g⟩ := sp
          dsimp only at hspl hFl hM ⊢
          refine gG.step (L' := [some (.ref b), some (.int map), some (.int field), some (.int v), some (.int (nI m)), some (.int (nI f)), some (.int (nI l)), some (.int (bI nz)), some (.int (nI n)), none, none]) rfl (fun _ => rfl) ?_
          -- the last stretch: n signs in g
          have last : ∀ (h : im_H) (n : Nat) (g : Nat → Int32), n ≤ l → MM b h0 h (upd s 0 0) (va_up t 12 g) → (n, g) = mFl t m f v → gG tb_T (gD (d + 2)) (some .int) cd_543 189 [some (.ref b), some (.int map), some (.int field), some (.int v), some (.int (nI m)), some (.int (nI f)), some (.int (nI l)), some (.int (bI nz)), some (.int (nI n)), none, none] [] h Q := by
            intro h n g hnl hM hF
            rw [← hF] at k
            dsimp only at k
            iterate 4 refine gG.step rfl (fun _ => rfl) ?_
            refine mVir hM rfl rfl rfl (Nat.le_of_ble_eq_true rfl) rfl rfl (Nat.le_of_ble_eq_true rfl) ?_
            refine m_519 (d + 1) hM hm hf30 (show 10 < 14 by decide) _ ?_
            show gG _ _ _ _ 199 _ [Value.int (t 8 (fI m f 10))] h Q
            refine gG.step rfl (fun _ => rfl) ?_
            obtain ⟨fr0, hfr⟩ : ∃ z, z = mFr t m f n := ⟨_, rfl⟩
            rw [← hfr, ← hl, hl3] at k
            have hfrb : fr0 + n ≤ l := by
              rw [hfr]
              unfold mFr
              split
              · rw [← hl]; omega
              · omega
            have at212 : gG tb_T (gD (d + 2)) (some .int) cd_543 212 [some (.ref b), some (.int map), some (.int field), some (.int v), some (.int (nI m)), some (.int (nI f)), some (.int (nI l)), some (.int (bI nz)), some (.int (nI n)), none, none] [.int (nI fr0)] h Q := by
              refine gG.step (L' := [some (.ref b), some (.int map), some (.int field), some (.int v), some (.int (nI m)), some (.int (nI f)), some (.int (nI l)), some (.int (bI nz)), some (.int (nI n)), some (.int (nI fr0)), none]) rfl (fun _ => rfl) ?_
              refine gG.step rfl (fun _ => rfl) ?_
              refine gG.step (L' := [some (.ref b), some (.int map), some (.int field), some (.int v), some (.int (nI m)), some (.int (nI f)), some (.int (nI l)), some (.int (bI nz)), some (.int (nI n)), some (.int (nI fr0)), some (.int (nI 0))]) rfl (fun _ => rfl) ?_
              have key : ∀ (r i : Nat) (h : im_H), i + r = l → MM b h0 h (upd s 0 0) (va_up (va_up t 12 g) 10 (mEd fr0 n g (t 10) i)) → gG tb_T (gD (d + 2)) (some .int) cd_543 217 [some (.ref b), some (.int map), some (.int field), some (.int v), some (.int (nI m)), some (.int (nI f)), some (.int (nI l)), some (.int (bI nz)), some (.int (nI n)), some (.int (nI fr0)), some (.int (nI i))] [] h Q := by
                intro r
                induction r with
                | zero =>
                  intro i h hi hM
                  have hi : i = l := by omega
                  subst hi
                  iterate 2 refine gG.step rfl (fun _ => rfl) ?_
                  refine gG.icmp (tgt := 274) rfl rfl (fun _ => ?_) (fun c => absurd ((c_ge (by omega) (by omega)).mpr (by omega)) c)
                  iterate 2 refine gG.step rfl (fun _ => rfl) ?_
                  refine mPut hM rfl (by decide) rfl rfl rfl (fun h hM => ?_)
                  refine gG.step rfl (fun _ => rfl) ?_
                  exact gG.done rfl (fun _ => rfl) (k h hM)
                | succ r ih =>
                  intro i h hi hM
                  iterate 2 refine gG.step rfl (fun _ => rfl) ?_
                  refine gG.icmp (tgt := 274) rfl rfl (fun z => absurd ((c_ge (by omega) (by omega)).mp z) (by omega)) (fun _ => ?_)
                  refine gG.step rfl (fun _ => rfl) ?_
                  refine mGet hM rfl rfl ?_
                  iterate 8 refine gG.step rfl (fun _ => rfl) ?_
                  have ew : nI fr0 + nI n - 1 = nI (fr0 + n) - 1 := by rw [nI_add]
                  show gG _ _ _ _ 241 _ [Value.int (nI fr0 + nI n - 1), Value.int (nI fr0), Value.int (nI i), Value.int (nI i), Value.ref (b + 10)] h Q
                  rw [ew]
                  refine gG.inv rfl (fun _ => rfl) (Nat.le_of_ble_eq_true rfl) rfl rfl (Nat.le_of_ble_eq_true rfl) ?_
                  refine m_514 (d + 1) _ _ _ _ _ ?_
                  show gG _ _ _ _ 244 _ [Value.int (bI (decide (nI fr0 ≤ nI i ∧ nI i ≤ nI (fr0 + n) - 1))), Value.int (nI i), Value.ref (b + 10)] h Q
                  have hiff : (nI fr0 ≤ nI i ∧ nI i ≤ nI (fr0 + n) - 1) ↔ (fr0 ≤ i ∧ i < fr0 + n) := by
                    rw [nI_leI (by omega) (by omega)]
                    constructor
                    · rintro ⟨g1, g2⟩
                      obtain ⟨j, hj, hj2⟩ := wn_of (x := nI i) (n := fr0 + n) (by omega) ⟨nI_pos' (by omega), g2⟩
                      rw [nI_eq (by omega) (by omega)] at hj2
                      omega
                    · rintro ⟨g1, g2⟩
                      refine ⟨g1, ?_⟩
                      obtain ⟨q, hq⟩ : ∃ q, fr0 + n = q + 1 := ⟨fr0 + n - 1, by omega⟩
                      rw [hq, nI_pred]
                      exact nI_le (by omega) (by omega)
                  have store : ∀ x : Int32, x = (if fr0 ≤ i ∧ i < fr0 + n then g (n - 1 - (i - fr0)) else 32) → gG tb_T (gD (d + 2)) (some .int) cd_543 267 [some (.ref b), some (.int map), some (.int field), some (.int v), some (.int (nI m)), some (.int (nI f)), some (.int (nI l)), some (.int (bI nz)), some (.int (nI n)), some (.int (nI fr0)), some (.int (nI i))] [.int x, .int (nI i), .ref (b + 10)] h Q := by
                    intro x hx
                    refine mAst (j := 10) (n := i) hM rfl (by decide) (by decide) rfl (show i < 80 by omega) (fun h hM => ?_)
                    have hM := MM.arr hM (up2 _ _ _ _)
                    rw [va_up_self] at hM
                    have hM : MM b h0 h (upd s 0 0) (va_up (va_up t 12 g) 10 (mEd fr0 n g (t 10) (i + 1))) := by
                      rw [mEd, ← hx]
                      exact hM
                    refine gG.step rfl (fun _ => rfl) ?_
                    refine gG.goto (tgt := 217) rfl rfl ?_
                    have ih1 := ih (i + 1) h (by omega) hM
                    rw [← nI_1 i] at ih1
                    exact ih1
                  by_cases hin : fr0 ≤ i ∧ i < fr0 + n
                  · rw [decide_eq_true (hiff.mpr hin)]
                    refine gG.ifc (tgt := 265) rfl rfl (fun c => absurd c (by decide)) (fun _ => ?_)
                    refine gG.step rfl (fun _ => rfl) ?_
                    refine mGet hM rfl rfl ?_
                    iterate 7 refine gG.step rfl (fun _ => rfl) ?_
                    have e5 : nI n - 1 - (nI i - nI fr0) = nI (n - 1 - (i - fr0)) := by
                      rw [show (1 : Int32) = nI 1 from rfl, pk_sub (by omega), pk_sub (by omega), pk_sub (by omega)]
                    refine mAld (j := 12) (n := n - 1 - (i - fr0)) hM rfl (by decide) (by decide) e5 (show _ < 90 by omega) ?_
                    refine gG.goto (tgt := 267) rfl rfl ?_
                    refine store _ ?_
                    rw [if_pos hin]
                    rfl
                  · rw [decide_eq_false (fun z => hin (hiff.mp z))]
                    refine gG.ifc (tgt := 265) rfl rfl (fun _ => ?_) (fun c => absurd (by decide) c)
                    refine gG.step rfl (fun _ => rfl) ?_
                    exact store 32 (by rw [if_neg hin])
              refine key l 0 h (by omega) (MM.arr hM (fun j _ _ => ?_))
              by_cases hj : j = 10
              · subst hj
                rw [va_up_self]
                rfl
              · rw [va_up_ne (k := 10) _ _ hj]
            refine gG.icmp (tgt := 211) rfl rfl (fun c => ?_) (fun c => ?_)
            · have hne : ¬ t 8 (fI m f 10) = 1 := c_ne.mp c
              have e0 : fr0 = 0 := by rw [hfr]; unfold mFr; rw [if_neg hne]
              rw [e0] at at212
              refine gG.step rfl (fun _ => rfl) ?_
              exact at212
            · have heq : t 8 (fI m f 10) = 1 := Decidable.not_not.mp (fun z => c (c_ne.mpr z))
              have e0 : fr0 = l - n := by rw [hfr]; unfold mFr; rw [if_pos heq, ← hl]
              iterate 3 refine gG.step rfl (fun _ => rfl) ?_
              refine gG.goto (tgt := 212) rfl rfl ?_
              rw [e0, ← pk_sub hnl] at at212
              exact at212
          -- the minus
          have minus : ∀ (h : im_H) (n : Nat) (g : Nat → Int32), n ≤ l → (nz = true → n = l) → MM b h0 h (upd s 0 0) (va_up t 12 g) → (if nz = true then (l, if ¬ 0 ≤ v ∧ g (l - 1) = 48 then upd g (l - 1) 45 else g) else if ¬ 0 ≤ v ∧ n < l then (n + 1, upd g n 45) else (n, g)) = mFl t m f v → gG tb_T (gD (d + 2)) (some .int) cd_543 127 [some (.ref b), some (.int map), some (.int field), some (.int v), some (.int (nI m)), some (.int (nI f)), some (.int (nI l)), some (.int (bI nz)), some (.int (nI n)), none, none] [] h Q := by
            intro h n g hnl hnn hM hF
            have el : nI l - 1 = nI (l - 1) := by rw [show (1 : Int32) = nI 1 from rfl, pk_sub hl1]
            refine gG.step rfl (fun _ => rfl) ?_
            by_cases hv : 0 ≤ v
            · have hF2 : (n, g) = mFl t m f v := by
                rw [← hF]
                cases hz : nz with
                | true => rw [if_pos rfl, if_neg (fun z => z.1 hv), hnn hz]
                | false => rw [if_neg (by decide), if_neg (fun z => z.1 hv)]
              refine gG.ifc (tgt := 161) rfl rfl (fun _ => ?_) (fun c => absurd (decide_eq_true hv) c)
              refine gG.step rfl (fun _ => rfl) ?_
              refine gG.ifc (tgt := 189) rfl rfl (fun _ => ?_) (fun c => absurd (decide_eq_true hv) c)
              exact last h n g hnl hM hF2
            · refine gG.ifc (tgt := 161) rfl rfl (fun c => absurd (of_decide_eq_true c) hv) (fun _ => ?_)
              refine gG.step rfl (fun _ => rfl) ?_
              cases hz : nz with
              | true =>
                rw [hz] at hF hnn last
                rw [if_pos rfl] at hF
                have hnl2 := hnn rfl
                subst hnl2
                refine gG.ifc (tgt := 161) rfl rfl (fun c => absurd c (by decide)) (fun _ => ?_)
                have at161 : ∀ (h : im_H) (g2 : Nat → Int32), MM b h0 h (upd s 0 0) (va_up t 12 g2) → (n, g2) = mFl t m f v → gG tb_T (gD (d + 2)) (some .int) cd_543 161 [some (.ref b), some (.int map), some (.int field), some (.int v), some (.int (nI m)), some (.int (nI f)), some (.int (nI n)), some (.int (bI true)), some (.int (nI n)), none, none] [] h Q := by
                  intro h g2 hM hF2
                  refine gG.step rfl (fun _ => rfl) ?_
                  refine gG.ifc (tgt := 189) rfl rfl (fun c => absurd (of_decide_eq_true c) hv) (fun _ => ?_)
                  refine gG.step rfl (fun _ => rfl) ?_
                  refine gG.ifc (tgt := 189) rfl rfl (fun _ => ?_) (fun c => absurd (by decide) c)
                  exact last h n g2 hnl hM hF2
                refine gG.step rfl (fun _ => rfl) ?_
                refine mGet hM rfl rfl ?_
                iterate 3 refine gG.step rfl (fun _ => rfl) ?_
                refine mAld (j := 12) (n := n - 1) hM rfl (by decide) (by decide) el (show n - 1 < 90 by omega) ?_
                show gG _ _ _ _ 145 _ [Value.int (g (n - 1))] h Q
                refine gG.step rfl (fun _ => rfl) ?_
                refine gG.icmp (tgt := 161) rfl rfl (fun c => ?_) (fun c => ?_)
                · have hne : ¬ g (n - 1) = 48 := c_ne.mp c
                  rw [if_neg (fun z => hne z.2)] at hF
                  exact at161 h g hM hF
                · have heq : g (n - 1) = 48 := Decidable.not_not.mp (fun z => c (c_ne.mpr z))
                  rw [if_pos ⟨hv, heq⟩] at hF
                  refine gG.step rfl (fun _ => rfl) ?_
                  refine mGet hM rfl rfl ?_
                  iterate 4 refine gG.step rfl (fun _ => rfl) ?_
                  refine mAst (j := 12) (n := n - 1) hM rfl (by decide) (by decide) el (show n - 1 < 90 by omega) (fun h hM => ?_)
                  have hM := MM.arr hM (up2 _ _ _ _)
                  rw [va_up_self] at hM
                  exact at161 h _ hM hF
              | false =>
                rw [hz] at hF hnn last
                rw [if_neg (by decide)] at hF
                refine gG.ifc (tgt := 161) rfl rfl (fun _ => ?_) (fun c => absurd (by decide) c)
                refine gG.step rfl (fun _ => rfl) ?_
                refine gG.ifc (tgt := 189) rfl rfl (fun c => absurd (of_decide_eq_true c) hv) (fun _ => ?_)
                refine gG.step rfl (fun _ => rfl) ?_
                refine gG.ifc (tgt := 189) rfl rfl (fun c => absurd c (by decide)) (fun _ => ?_)
                iterate 2 refine gG.step rfl (fun _ => rfl) ?_
                by_cases hlt : n < l
                · rw [if_pos ⟨hv, hlt⟩] at hF
                  refine gG.icmp (tgt := 189) rfl rfl (fun z => absurd ((c_ge (by omega) (by omega)).mp z) (by omega)) (fun _ => ?_)
                  refine gG.step rfl (fun _ => rfl) ?_
                  refine mGet hM rfl rfl ?_
                  iterate 2 refine gG.step rfl (fun _ => rfl) ?_
                  refine mAst (j := 12) (n := n) hM rfl (by decide) (by decide) rfl (show n < 90 by omega) (fun h hM => ?_)
                  have hM := MM.arr hM (up2 _ _ _ _)
                  rw [va_up_self] at hM
                  refine gG.step (L' := [some (.ref b), some (.int map), some (.int field), some (.int v), some (.int (nI m)), some (.int (nI f)), some (.int (nI l)), some (.int (bI false)), some (.int (nI n + 1)), none, none]) rfl (fun _ => rfl) ?_
                  rw [nI_1]
                  exact last h (n + 1) _ (by omega) hM hF
                · rw [if_neg (fun z => hlt z.2)] at hF
                  refine gG.icmp (tgt := 189) rfl rfl (fun _ => ?_) (fun c => absurd ((c_ge (by omega) (by omega)).mpr (by omega)) c)
                  exact last h n g hnl hM hF
          -- the noughts
          have nought : ∀ (r n : Nat) (g : Nat → Int32) (h : im_H), n + r = l → MM b h0 h (upd s 0 0) (va_up t 12 g) → (nz = true → (l, if ¬ 0 ≤ v ∧ mZF r n g (l - 1) = 48 then upd (mZF r n g) (l - 1) 45 else mZF r n g) = mFl t m f v) → nz = true → gG tb_T (gD (d + 2)) (some .int) cd_543 100 [some (.ref b), some (.int map), some (.int field), some (.int v), some (.int (nI m)), some (.int (nI f)), some (.int (nI l)), some (.int (bI nz)), some (.int (nI n)), none, none] [] h Q := by
            intro r
            induction r with
            | zero =>
              intro n g h hr hM hF hz
              have hnl : n = l := by omega
              refine gG.step rfl (fun _ => rfl) ?_
              refine gG.ifc (tgt := 127) rfl rfl (fun c => absurd c (by rw [hz]; decide)) (fun _ => ?_)
              iterate 2 refine gG.step rfl (fun _ => rfl) ?_
              refine gG.icmp (tgt := 127) rfl rfl (fun _ => ?_) (fun c => absurd ((c_ge (by omega) (by omega)).mpr (by omega)) c)
              refine minus h n g (by omega) (fun _ => hnl) hM ?_
              rw [if_pos hz]
              exact hF hz
            | succ r ih =>
              intro n g h hr hM hF hz
              refine gG.step rfl (fun _ => rfl) ?_
              refine gG.ifc (tgt := 127) rfl rfl (fun c => absurd c (by rw [hz]; decide)) (fun _ => ?_)
              iterate 2 refine gG.step rfl (fun _ => rfl) ?_
              refine gG.icmp (tgt := 127) rfl rfl (fun z => absurd ((c_ge (by omega) (by omega)).mp z) (by omega)) (fun _ => ?_)
              refine gG.step rfl (fun _ => rfl) ?_
              refine mGet hM rfl rfl ?_
              iterate 2 refine gG.step rfl (fun _ => rfl) ?_
              refine mAst (j := 12) (n := n) hM rfl (by decide) (by decide) rfl (show n < 90 by omega) (fun h hM => ?_)
              have hM := MM.arr hM (up2 _ _ _ _)
              rw [va_up_self] at hM
              refine gG.step (L' := [some (.ref b), some (.int map), some (.int field), some (.int v), some (.int (nI m)), some (.int (nI f)), some (.int (nI l)), some (.int (bI nz)), some (.int (nI n + 1)), none, none]) rfl (fun _ => rfl) ?_
              rw [nI_1]
              refine gG.goto (tgt := 100) rfl rfl ?_
              exact ih (n + 1) (upd g n 48) h (by omega) hM hF hz
          cases hz : nz with
          | true =>
            have hz11 : t 8 (fI m f 11) = 1 := of_decide_eq_true (hnz.symm.trans hz)
            rw [if_pos hz11] at hFl
            rw [hz] at nought
            exact nought (l - n) n g h (by omega) hM (fun _ => hFl.symm) rfl
          | false =>
            have hz11 : ¬ t 8 (fI m f 11) = 1 := of_decide_eq_false (hnz.symm.trans hz)
            rw [if_neg hz11] at hFl
            rw [hz] at minus
            refine gG.step rfl (fun _ => rfl) ?_
            refine gG.ifc (tgt := 127) rfl rfl (fun _ => ?_) (fun c => absurd (by decide) c)
            refine minus h n g hspl (fun z => by cases z) hM ?_
            rw [if_neg (by decide)]
            exact hFl.symm
        by_cases hv : 0 ≤ v
        · have e1 : mV v = v.toInt64 := by unfold mV; rw [if_pos hv]
          rw [e1] at at83
          refine gG.ifc (tgt := 81) rfl rfl (fun _ => ?_) (fun c => absurd (decide_eq_true hv) c)
          iterate 2 refine gG.step rfl (fun _ => rfl) ?_
          exact at83
        · have e1 : mV v = -v.toInt64 := by unfold mV; rw [if_neg hv]
          rw [e1] at at83
          refine gG.ifc (tgt := 81) rfl rfl (fun c => absurd (of_decide_eq_true c) hv) (fun _ => ?_)
          iterate 3 refine gG.step rfl (fun _ => rfl) ?_
          refine gG.goto (tgt := 83) rfl rfl ?_
          exact at83
      refine gG.icmp (tgt := 67) rfl rfl (fun c => ?_) (fun c => ?_)
      · have e1 : nz = false := by rw [hnz]; exact decide_eq_false (show ¬ t 8 (fI m f 11) = 1 from c_ne.mp c)
        rw [e1] at at68
        refine gG.step rfl (fun _ => rfl) ?_
        exact at68
      · have e1 : nz = true := by rw [hnz]; exact decide_eq_true (show t 8 (fI m f 11) = 1 from Decidable.not_not.mp (fun z => c (c_ne.mpr z)))
        rw [e1] at at68
        refine gG.step rfl (fun _ => rfl) ?_
        refine gG.goto (tgt := 68) rfl rfl ?_
        exact at68
