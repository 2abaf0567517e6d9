/-! WHAT IS EDITED: the code -/
def EC (h0 h : im_H) (len : Int32) (g : Nat → Int32) : Prop := fr 8 10 h0 h ∧ h[8]? = some (.inr (1, [.ref 9, .int len])) ∧ h[9]? = some (.inl (1, 80, .inl g))
theorem EC.far {h0 h : im_H} {len : Int32} {g : Nat → Int32} (hE : EC h0 h len g) : ∀ k, 25 ≤ k → h[k]? = h0[k]? := fun k hk => hE.1.2.2 k (Or.inr (by omega))
theorem EC.arr {h0 h : im_H} {len : Int32} {g : Nat → Int32} (hE : EC h0 h len g) (g' : Nat → Int32) : EC h0 (h.set 9 (.inl (1, 80, .inl g'))) len g' :=
  ⟨hE.1.set hE.2.2 rfl (by decide) (by decide), by rw [set_ne (by decide)]; exact hE.2.1, set_at hE.2.2⟩
theorem EC.cg {h0 h : im_H} {len : Int32} {g g' : Nat → Int32} (hE : EC h0 h len g) (e : g = g') : EC h0 h len g' := e ▸ hE
theorem eAst {call : Nat → im_F} {ret : Option FieldType} {cd : List (Nat × im_X)} {pc : Nat} {L : im_L} {st : List Value} {h0 h : im_H} {Q : Option Value → im_H → Prop} {len : Int32} {g : Nat → Int32} {i x y : Int32} {j a1 a2 : Nat} (hE : EC h0 h len g) (hf : im_f cd pc = some (.bastore, a1, a2)) (hi : i = nI j) (hj : j < 80) (hx : x.toInt8.toInt32 = y) (kk : ∀ h', EC h0 h' len (upd g j y) → gG tb_T call ret cd (pc + 1) L st h' Q) : gG tb_T call ret cd pc L (.int x :: .int i :: .ref 9 :: st) h Q := by
  subst hx
  exact gG.bast hf hE.2.2 hi hj (by decide) (kk _ (hE.arr _))
theorem c_640 (d : Nat) {n lo hi : Nat} (h1 : lo ≤ hi) (h2 : hi ≤ n) (hn : n < 2 ^ 31) (h : im_H) (Q : Option Value → im_H → Prop) (k : Q none h) : gC (gD (d + 1)) 640 [.int (nI n), .int (nI lo), .int (nI hi)] h Q := by
  refine gC.of (q := me_640.2) rfl (Nat.le_of_ble_eq_true rfl) rfl ?_
  iterate 2 refine gG.step (cd := cd_640) rfl (fun _ => rfl) ?_
  refine gG.icmp (tgt := 46) rfl rfl (fun _ => ?_) (fun c => absurd ((c_le (by omega) (by omega)).mpr h1) c)
  refine gG.step rfl (fun _ => rfl) ?_
  refine gG.ifc (tgt := 59) rfl rfl (fun _ => ?_) (fun c => absurd (c_gen (by omega)) c)
  iterate 2 refine gG.step rfl (fun _ => rfl) ?_
  refine gG.icmp (tgt := 73) rfl rfl (fun _ => ?_) (fun c => absurd ((c_le (by omega) (by omega)).mpr h2) c)
  exact gG.done rfl (fun _ => rfl) (k)
theorem c_641 (d : Nat) {h0 h : im_H} {len : Int32} {g : Nat → Int32} {x y : Int32} (hE : EC h0 h len g) (hx : x.toInt8.toInt32 = y) (Q : Option Value → im_H → Prop) (k : ∀ h', EC h0 h' len (fun j => if j < 80 then y else g j) → Q none h') : gC (gD (d + 1)) 641 [.ref 9, .int x] h Q := by
  refine gC.of (q := me_641.2) rfl (Nat.le_of_ble_eq_true rfl) rfl ?_
  iterate 3 refine gG.step (cd := cd_641) rfl (fun _ => rfl) ?_
  refine gG.alen rfl hE.2.2 rfl ?_
  refine gG.step (L' := [some (.ref 9), some (.int x), some (.int (nI 0)), some (.int (nI 80))]) rfl (fun _ => rfl) ?_
  have key : ∀ (r i : Nat) (h : im_H), i + r = 80 → EC h0 h len (fun j => if j < i then y else g j) → gG tb_T (gD d) none cd_641 5 [some (.ref 9), some (.int x), some (.int (nI i)), some (.int (nI 80))] [] h Q := by
    intro r
    induction r with
    | zero =>
      intro i h hi hE
      have hi : i = 80 := by omega
      subst hi
      iterate 2 refine gG.step rfl (fun _ => rfl) ?_
      refine gG.icmp (tgt := 20) rfl rfl (fun _ => ?_) (fun c => absurd ((c_ge (by omega) (by omega)).mpr (by omega)) c)
      exact gG.done rfl (fun _ => rfl) (k h hE)
    | succ r ih =>
      intro i h hi hE
      iterate 2 refine gG.step rfl (fun _ => rfl) ?_
      refine gG.icmp (tgt := 20) rfl rfl (fun c => absurd c (fun z => absurd ((c_ge (by omega) (by omega)).mp z) (by omega))) (fun _ => ?_)
      iterate 3 refine gG.step rfl (fun _ => rfl) ?_
      refine eAst (j := i) hE rfl rfl (by omega) hx (fun h hE => ?_)
      refine gG.step rfl (fun _ => rfl) ?_
      refine gG.goto (tgt := 5) rfl rfl ?_
      have ih1 := ih (i + 1) h (by omega) (hE.cg (by
        funext j
        by_cases hj : j = i
        · subst hj
          rw [pk_us, if_pos (by omega)]
        · rw [pk_un hj]
          by_cases h2 : j < i
          · rw [if_pos h2, if_pos (by omega)]
          · rw [if_neg h2, if_neg (by omega)]))
      rw [← nI_1 i] at ih1
      exact ih1
  exact key 80 0 h (by omega) (hE.cg (by funext j; rw [if_neg (by omega)]))
theorem c_642 (d : Nat) {h0 h : im_H} {len : Int32} {g : Nat → Int32} {x y : Int32} {lo hi : Nat} (hE : EC h0 h len g) (h1 : lo ≤ hi) (h2 : hi ≤ 80) (hx : x.toInt8.toInt32 = y) (Q : Option Value → im_H → Prop) (k : ∀ h', EC h0 h' len (fun j => if lo ≤ j ∧ j < hi then y else g j) → Q none h') : gC (gD (d + 2)) 642 [.ref 9, .int (nI lo), .int (nI hi), .int x] h Q := by
  refine gC.of (q := me_642.2) rfl (Nat.le_of_ble_eq_true rfl) rfl ?_
  refine gG.step (cd := cd_642) rfl (fun _ => rfl) ?_
  refine gG.alen rfl hE.2.2 rfl ?_
  iterate 2 refine gG.step rfl (fun _ => rfl) ?_
  refine gG.inv rfl (fun _ => rfl) (Nat.le_of_ble_eq_true rfl) rfl rfl (Nat.le_of_ble_eq_true rfl) ?_
  refine c_640 d h1 h2 (by decide) h _ ?_
  refine gG.step rfl (fun _ => rfl) ?_
  refine gG.step (L' := [some (.ref 9), some (.int (nI lo)), some (.int (nI hi)), some (.int x), some (.int (nI lo))]) rfl (fun _ => rfl) ?_
  have key : ∀ (r i : Nat) (h : im_H), i + r = hi → lo ≤ i → EC h0 h len (fun j => if lo ≤ j ∧ j < i then y else g j) → gG tb_T (gD (d + 1)) none cd_642 10 [some (.ref 9), some (.int (nI lo)), some (.int (nI hi)), some (.int x), some (.int (nI i))] [] h Q := by
    intro r
    induction r with
    | zero =>
      intro i h hi' hlo hE
      have hi' : i = hi := by omega
      subst hi'
      iterate 2 refine gG.step rfl (fun _ => rfl) ?_
      refine gG.icmp (tgt := 27) rfl rfl (fun _ => ?_) (fun c => absurd ((c_ge (by omega) (by omega)).mpr (by omega)) c)
      exact gG.done rfl (fun _ => rfl) (k h hE)
    | succ r ih =>
      intro i h hi' hlo hE
      iterate 2 refine gG.step rfl (fun _ => rfl) ?_
      refine gG.icmp (tgt := 27) rfl rfl (fun c => absurd c (fun z => absurd ((c_ge (by omega) (by omega)).mp z) (by omega))) (fun _ => ?_)
      iterate 3 refine gG.step rfl (fun _ => rfl) ?_
      refine eAst (j := i) hE rfl rfl (by omega) hx (fun h hE => ?_)
      refine gG.step rfl (fun _ => rfl) ?_
      refine gG.goto (tgt := 10) rfl rfl ?_
      have ih1 := ih (i + 1) h (by omega) (by omega) (hE.cg (by
        funext j
        by_cases hj : j = i
        · subst hj
          rw [pk_us, if_pos (by omega)]
        · rw [pk_un hj]
          by_cases h2 : lo ≤ j ∧ j < i
          · rw [if_pos h2, if_pos (by omega)]
          · rw [if_neg h2, if_neg (by omega)]))
      rw [← nI_1 i] at ih1
      exact ih1
  exact key (hi - lo) lo h (by omega) (Nat.le_refl _) (hE.cg (by funext j; rw [if_neg (by omega)]))
theorem sN_at {a dc L i : Nat} (hi : i < L) (hp : sP a dc i = true) (hn : ∀ k, k < i → sP a dc k = false) : sN a dc L = i := by
  have : sr (sP a dc) L 0 = some i := by
    rw [show L = i + (L - i) by omega, sr_skip i (L - i) 0 (fun k _ hk => hn k (by omega)), show L - i = (L - i - 1) + 1 by omega, sr, Nat.zero_add, if_pos hp]
  unfold sN
  rw [show sr (fun i => decide (cFs dc < i ∧ cRn a dc i = 0)) L 0 = some i from this]
theorem sN_all {a dc L : Nat} (hn : ∀ k, k < L → sP a dc k = false) : sN a dc L = L := by
  have : sr (sP a dc) L 0 = none := by
    have := sr_skip (p := sP a dc) L 0 0 (fun k _ hk => hn k (by omega))
    rw [Nat.add_zero] at this
    rw [this]
    rfl
  unfold sN
  rw [show sr (fun i => decide (cFs dc < i ∧ cRn a dc i = 0)) L 0 = none from this]
/-- the first n signs lie at the end, blanks elsewhere -/
def eAt (L n : Nat) (D g : Nat → Int32) : Prop := (∀ i, i < n → g (L - 1 - i) = D i) ∧ ∀ k, k < 80 → (k < L - n ∨ L ≤ k) → g k = 32
theorem c_66 (d : Nat) {h0 h : im_H} {t : Nat → Nat → Int32} {m f fo : Nat} {oc pi pl : Int32} {sh : Value} {g : Nat → Int32} {a L dc : Nat} {no : Bool} (hE : EC h0 h (nI L) g) (ho : 25 ≤ fo) (hx : h0[fo]? = some (.inr (3, cF (gF t m f) oc pi sh pl))) (ha : a < 2 ^ 63) (hL : 1 ≤ L) (hL8 : L ≤ 80) (e7 : t 8 (fI m f 7) = nI dc) (hd : dc = 0 ∨ dc < L) (e11 : t 8 (fI m f 11) = bI no) (hg : ∀ k, k < 80 → g k = 32) (Q : Option Value → im_H → Prop) (k : ∀ h' g', EC h0 h' (nI L) g' → eAt L (if no = true then L else sN a dc L) (cDn a dc) g' → Q (some (.int (nI (L - (if no = true then L else sN a dc L))))) h') : gC (gD (d + 1)) 66 [.ref 8, .ref fo, .long (lN a)] h Q := by
  have ed : gF t m f 7 = nI dc := e7
  have en : gF t m f 11 = bI no := e11
  have hx1 : ∀ h g, EC h0 h (nI L) g → h[fo]? = some (.inr (3, cF (gF t m f) oc pi sh pl)) := fun h g hE => by rw [hE.far fo ho]; exact hx
  refine gC.of (q := me_66.2) rfl (Nat.le_of_ble_eq_true rfl) rfl ?_
  refine gG.step (cd := cd_66) rfl (fun _ => rfl) ?_
  refine gG.step (L' := [some (.ref 8), some (.ref fo), some (.long (lN a)), none, some (.long (lN a)), none, none, none, none]) rfl (fun _ => rfl) ?_
  -- the loop
  have loop : ∀ (pt ld : Int32), (∀ j, j < L → (nI j = pt ↔ (¬ dc = 0 ∧ L - 1 - j = dc))) → (∀ j, j < L → (nI j < ld ↔ j + cFs dc + 1 < L)) → ∀ (j : Nat) (h : im_H) (g : Nat → Int32), j ≤ L → EC h0 h (nI L) g → eAt L (L - j) (cDn a dc) g → (no = false → ∀ i, i < L - j → sP a dc i = false) → gG tb_T (gD d) (some .int) cd_66 57 [some (.ref 8), some (.ref fo), some (.long (lN a)), none, some (.long (lN (cRn a dc (L - j)))), none, some (.int pt), some (.int ld), some (.int (nI j - 1))] [] h Q := by
    intro pt ld hpt hld j
    induction j with
    | zero =>
      intro h g hj hE hat hno
      refine gG.step rfl (fun _ => rfl) ?_
      refine gG.ifc (tgt := 140) rfl rfl (fun _ => ?_) (fun c => absurd (by decide) c)
      refine gG.step rfl (fun _ => rfl) ?_
      have e : (if no = true then L else sN a dc L) = L := by
        cases no with
        | true => rfl
        | false => exact sN_all (fun i hi => hno rfl i (by omega))
      rw [e, Nat.sub_self] at k
      exact gG.done rfl (fun _ => rfl) (k h g hE hat)
    | succ j ih =>
      intro h g hj hE hat hno
      have hx := hx1 h g hE
      rw [nI_pred]
      have hjL : j < L := by omega
      obtain ⟨i, hi⟩ : ∃ i, i = L - (j + 1) := ⟨_, rfl⟩
      rw [← hi] at hat hno ⊢
      have hrl : cRn a dc i < 2 ^ 63 := cRn_lt ha
      -- a sign is written
      have at88 : (no = false → sP a dc i = false) → gG tb_T (gD d) (some .int) cd_66 88 [some (.ref 8), some (.ref fo), some (.long (lN a)), none, some (.long (lN (cRn a dc i))), none, some (.int pt), some (.int ld), some (.int (nI j))] [] h Q := by
        intro hpi
        have nxt : ∀ (h : im_H), EC h0 h (nI L) (upd g j (cDn a dc i)) → gG tb_T (gD d) (some .int) cd_66 134 [some (.ref 8), some (.ref fo), some (.long (lN a)), none, some (.long (lN (cRn a dc (i + 1)))), none, some (.int pt), some (.int ld), some (.int (nI j))] [] h Q := by
          intro h hE
          refine gG.step rfl (fun _ => rfl) ?_
          refine gG.goto (tgt := 57) rfl rfl ?_
          have e1 : L - j = i + 1 := by omega
          have ih1 := ih h _ (by omega) hE ⟨fun q hq => ?_, fun q hq hq2 => ?_⟩ (fun hn q hq => ?_)
          · rw [e1, Int32.sub_eq_add_neg] at ih1
            exact ih1
          · rw [e1] at hq
            by_cases hqi : q = i
            · rw [hqi, show L - 1 - i = j by omega, pk_us]
            · rw [pk_un (by omega)]
              exact hat.1 q (by omega)
          · rw [pk_un (by omega)]
            exact hat.2 q hq (by omega)
          · rw [e1] at hq
            by_cases hqi : q = i
            · rw [hqi]
              exact hpi hn
            · exact hno hn q (by omega)
        iterate 2 refine gG.step rfl (fun _ => rfl) ?_
        by_cases hp : nI j = pt
        · have hpd := (hpt j hjL).mp hp
          have hid : i = dc := by omega
          refine gG.icmp (tgt := 107) rfl rfl (fun c => absurd hp (c_ne.mp c)) (fun _ => ?_)
          refine gG.step rfl (fun _ => rfl) ?_
          refine gG.get rfl (hE.2.1) rfl ?_
          iterate 2 refine gG.step rfl (fun _ => rfl) ?_
          refine eAst (j := j) (y := cDn a dc i) hE rfl rfl (by omega) ?_ (fun h hE => ?_)
          · unfold cDn
            rw [if_pos ⟨hpd.1, hid⟩]
            rfl
          refine gG.goto (tgt := 134) rfl rfl ?_
          have := nxt h hE
          rw [hid, cRn_point hpd.1] at this
          rw [hid]
          exact this
        · have hpd : ¬ (¬ dc = 0 ∧ i = dc) := fun z => hp ((hpt j hjL).mpr ⟨z.1, by omega⟩)
          refine gG.icmp (tgt := 107) rfl rfl (fun _ => ?_) (fun c => absurd (c_ne.mpr hp) c)
          refine gG.step rfl (fun _ => rfl) ?_
          refine gG.get rfl (hE.2.1) rfl ?_
          iterate 4 refine gG.step rfl (fun _ => rfl) ?_
          refine gG.lrem rfl (by decide) ?_
          iterate 3 refine gG.step rfl (fun _ => rfl) ?_
          have ev : ((48 : Int64) + (lN (cRn a dc i) - lN (cRn a dc i) / 10 * 10)).toInt32 = cDn a dc i := by
            have e10 : lN (cRn a dc i) - lN (cRn a dc i) / 10 * 10 = lN (cRn a dc i % 10) := pk_lRem (b := 10) hrl (by decide) (by decide)
            rw [e10, show (48 : Int64) = lN 48 from rfl, lN_add, lN_i]
            unfold cDn
            rw [if_neg hpd]
          show gG _ _ _ _ 125 _ [Value.int ((48 : Int64) + (lN (cRn a dc i) - lN (cRn a dc i) / 10 * 10)).toInt32.toInt8.toInt32, Value.int (nI j), Value.ref 9] h Q
          rw [ev]
          refine eAst (j := j) (y := cDn a dc i) hE rfl rfl (by omega) (i8_id2 (cDn_ps a dc i)) (fun h hE => ?_)
          iterate 2 refine gG.step rfl (fun _ => rfl) ?_
          refine gG.ldiv rfl (by decide) ?_
          have ediv : lN (cRn a dc i) / 10 = lN (cRn a dc (i + 1)) := by rw [l_div hrl, cRn_succ hpd]
          show gG _ _ _ _ 132 _ [Value.long (lN (cRn a dc i) / 10)] h Q
          rw [ediv]
          refine gG.step (L' := [some (.ref 8), some (.ref fo), some (.long (lN a)), none, some (.long (lN (cRn a dc (i + 1)))), none, some (.int pt), some (.int ld), some (.int (nI j))]) rfl (fun _ => rfl) ?_
          exact nxt h hE
      refine gG.step rfl (fun _ => rfl) ?_
      refine gG.ifc (tgt := 140) rfl rfl (fun c => absurd c (c_ltn (by omega))) (fun _ => ?_)
      iterate 2 refine gG.step rfl (fun _ => rfl) ?_
      by_cases hl : nI j < ld
      · have hfs := (hld j hjL).mp hl
        refine gG.icmp (tgt := 88) rfl rfl (fun c => absurd hl (Int32.not_lt.mpr (of_decide_eq_true c))) (fun _ => ?_)
        iterate 2 refine gG.step rfl (fun _ => rfl) ?_
        refine gG.step rfl (fun _ => rfl) ?_
        show gG _ _ _ _ 73 _ [Value.int (lg_cmp (lN (cRn a dc i)) 0)] h Q
        rw [lgc hrl]
        by_cases hz : cRn a dc i = 0
        · rw [if_pos hz]
          refine gG.ifc (tgt := 88) rfl rfl (fun c => absurd c (by decide)) (fun _ => ?_)
          refine gG.step rfl (fun _ => rfl) ?_
          refine gG.get rfl (hx) rfl ?_
          rw [en]
          cases no with
          | true =>
            refine gG.ifc (tgt := 88) rfl rfl (fun _ => ?_) (fun c => absurd (by decide) c)
            exact at88 (fun z => by cases z)
          | false =>
            refine gG.ifc (tgt := 88) rfl rfl (fun c => absurd c (by decide)) (fun _ => ?_)
            iterate 3 refine gG.step rfl (fun _ => rfl) ?_
            have hsi : sN a dc L = i := sN_at (by omega) (decide_eq_true ⟨by omega, hz⟩) (fun q hq => hno rfl q hq)
            have e : (if false = true then L else sN a dc L) = i := by rw [hsi]; rfl
            rw [e, show L - i = j + 1 by omega, ← nI_1] at k
            exact gG.done rfl (fun _ => rfl) (k h g hE hat)
        · rw [if_neg hz]
          refine gG.ifc (tgt := 88) rfl rfl (fun _ => ?_) (fun c => absurd (by decide) c)
          exact at88 (fun _ => decide_eq_false (fun z => hz z.2))
      · have hfs : ¬ j + cFs dc + 1 < L := fun z => hl ((hld j hjL).mpr z)
        refine gG.icmp (tgt := 88) rfl rfl (fun _ => ?_) (fun c => absurd (decide_eq_true (Int32.not_lt.mp hl)) c)
        exact at88 (fun _ => decide_eq_false (fun z => absurd z.1 (by omega)))
  have hx0 := hx1 h g hE
  have e0 : cRn a dc (L - L) = a := by
    rw [Nat.sub_self]
    unfold cRn
    by_cases h : dc = 0
    · rw [if_pos h, Nat.pow_zero, Nat.div_one]
    · rw [if_neg h, if_pos (Nat.zero_le _), Nat.pow_zero, Nat.div_one]
  have start : ∀ pt ld, (∀ j, j < L → (nI j = pt ↔ (¬ dc = 0 ∧ L - 1 - j = dc))) → (∀ j, j < L → (nI j < ld ↔ j + cFs dc + 1 < L)) → gG tb_T (gD d) (some .int) cd_66 49 [some (.ref 8), some (.ref fo), some (.long (lN a)), none, some (.long (lN a)), none, some (.int pt), some (.int ld), none] [] h Q := by
    intro pt ld hpt hld
    refine gG.step rfl (fun _ => rfl) ?_
    refine gG.get rfl (hE.2.1) rfl ?_
    iterate 2 refine gG.step rfl (fun _ => rfl) ?_
    refine gG.step (L' := [some (.ref 8), some (.ref fo), some (.long (lN a)), none, some (.long (lN a)), none, some (.int pt), some (.int ld), some (.int (nI L - 1))]) rfl (fun _ => rfl) ?_
    have := loop pt ld hpt hld L h g (Nat.le_refl _) hE ⟨fun i hi => absurd hi (by omega), fun q hq _ => hg q hq⟩ (fun _ i hi => absurd hi (by omega))
    rw [e0] at this
    exact this
  refine gG.step rfl (fun _ => rfl) ?_
  refine gG.get rfl (hx0) rfl ?_
  rw [ed]
  by_cases h0 : dc = 0
  · have hcf : cFs dc = 0 := by unfold cFs; rw [if_pos h0]
    have ez : nI dc = 0 := by rw [h0]; rfl
    refine gG.ifc (tgt := 14) rfl rfl (fun c => absurd ez (c_ne.mp c)) (fun _ => ?_)
    refine gG.step rfl (fun _ => rfl) ?_
    refine gG.goto (tgt := 25) rfl rfl ?_
    refine gG.step (L' := [some (.ref 8), some (.ref fo), some (.long (lN a)), none, some (.long (lN a)), none, some (.int (-1)), none, none]) rfl (fun _ => rfl) ?_
    refine gG.step rfl (fun _ => rfl) ?_
    refine gG.get rfl (hx0) rfl ?_
    rw [ed]
    refine gG.ifc (tgt := 43) rfl rfl (fun c => absurd ez (c_ne.mp c)) (fun _ => ?_)
    refine gG.step rfl (fun _ => rfl) ?_
    refine gG.get rfl (hE.2.1) rfl ?_
    iterate 2 refine gG.step rfl (fun _ => rfl) ?_
    refine gG.goto (tgt := 47) rfl rfl ?_
    refine gG.step (L' := [some (.ref 8), some (.ref fo), some (.long (lN a)), none, some (.long (lN a)), none, some (.int (-1)), some (.int (nI L - 1)), none]) rfl (fun _ => rfl) ?_
    refine start (-1) (nI L - 1) (fun j hj => ⟨fun z => ?_, fun z => absurd h0 z.1⟩) (fun j hj => ?_)
    · exfalso
      have := nI_pos' (n := j) (by omega)
      rw [z] at this
      exact absurd this (by decide)
    · have el : nI L - 1 = nI (L - 1) := pk_sub (b := 1) (by omega)
      rw [el, nI_ltI (by omega) (by omega), hcf]
      omega
  · have hcf : cFs dc = dc + 1 := by unfold cFs; rw [if_neg h0]
    have hdL : dc < L := by omega
    have ez : ¬ nI dc = 0 := nI_ne0 (by omega) (by omega)
    refine gG.ifc (tgt := 14) rfl rfl (fun _ => ?_) (fun c => absurd (c_ne.mpr ez) c)
    refine gG.step rfl (fun _ => rfl) ?_
    refine gG.get rfl (hE.2.1) rfl ?_
    iterate 3 refine gG.step rfl (fun _ => rfl) ?_
    refine gG.get rfl (hx0) rfl ?_
    rw [ed]
    refine gG.step rfl (fun _ => rfl) ?_
    have ep : nI L - 1 - nI dc = nI (L - 1 - dc) := by
      rw [show nI L - 1 = nI (L - 1) from pk_sub (b := 1) (by omega), pk_sub (by omega)]
    show gG _ _ _ _ 25 _ [Value.int (nI L - 1 - nI dc)] h Q
    rw [ep]
    refine gG.step (L' := [some (.ref 8), some (.ref fo), some (.long (lN a)), none, some (.long (lN a)), none, some (.int (nI (L - 1 - dc))), none, none]) rfl (fun _ => rfl) ?_
    refine gG.step rfl (fun _ => rfl) ?_
    refine gG.get rfl (hx0) rfl ?_
    rw [ed]
    refine gG.ifc (tgt := 43) rfl rfl (fun _ => ?_) (fun c => absurd (c_ne.mpr ez) c)
    iterate 3 refine gG.step rfl (fun _ => rfl) ?_
    refine gG.step (L' := [some (.ref 8), some (.ref fo), some (.long (lN a)), none, some (.long (lN a)), none, some (.int (nI (L - 1 - dc))), some (.int (nI (L - 1 - dc) - nI 1)), none]) rfl (fun _ => rfl) ?_
    refine start _ _ (fun j hj => ?_) (fun j hj => ?_)
    · rw [nI_eq (by omega) (by omega)]
      omega
    · rw [Int32.lt_iff_toInt_lt, pk_sub_toInt (by omega) (by omega), nI_toInt (by omega), hcf]
      omega
