/-! WHAT IS EDITED: signs from the last place on -/
def cRn (a dc i : Nat) : Nat := if dc = 0 then a / 10 ^ i else if i ≤ dc then a / 10 ^ i else a / 10 ^ (i - 1)
def cDn (a dc i : Nat) : Int32 := if ¬ dc = 0 ∧ i = dc then 46 else nI (48 + cRn a dc i % 10)
def cFs (dc : Nat) : Nat := if dc = 0 then 0 else dc + 1
def sN (a dc L : Nat) : Nat := match sr (fun i => decide (cFs dc < i ∧ cRn a dc i = 0)) L 0 with
  | none => L
  | some i => i
theorem mDg_n {a : Nat} (ha : a < 2 ^ 63) : mDg (lN a) = nI (48 + a % 10) := by
  unfold mDg lrm
  rw [show (10 : Int64) = lN 10 from rfl, pk_lRem ha (by decide) (by decide), lN_i, show (48 : Int32) = nI 48 from rfl, nI_add]
theorem l_div {a : Nat} (ha : a < 2 ^ 63) : lN a / 10 = lN (a / 10) := pk_lDiv (b := 10) ha (by decide) (by decide)
theorem lgc {a : Nat} (ha : a < 2 ^ 63) : lg_cmp (lN a) 0 = if a = 0 then 0 else 1 := by
  by_cases h : a = 0
  · subst h
    rfl
  · rw [if_neg h]
    unfold lg_cmp
    rw [if_pos]
    exact (pk_lLT (a := 0) (by decide) ha).mpr (by omega)
def sP (a dc : Nat) : Nat → Bool := fun i => decide (cFs dc < i ∧ cRn a dc i = 0)
theorem cRn_lt {a dc i : Nat} (ha : a < 2 ^ 63) : cRn a dc i < 2 ^ 63 := by
  unfold cRn
  split
  · exact Nat.lt_of_le_of_lt (Nat.div_le_self _ _) ha
  · split <;> exact Nat.lt_of_le_of_lt (Nat.div_le_self _ _) ha
/-- the next rest -/
theorem cRn_succ {a dc i : Nat} (h : ¬ (¬ dc = 0 ∧ i = dc)) : cRn a dc (i + 1) = cRn a dc i / 10 := by
  unfold cRn
  by_cases h0 : dc = 0
  · rw [if_pos h0, if_pos h0, Nat.pow_succ, Nat.div_div_eq_div_mul]
  · have hi : i ≠ dc := fun z => h ⟨h0, z⟩
    rw [if_neg h0, if_neg h0]
    by_cases hle : i ≤ dc
    · rw [if_pos hle, if_pos (by omega), Nat.pow_succ, Nat.div_div_eq_div_mul]
    · rw [if_neg hle, if_neg (by omega), Nat.div_div_eq_div_mul, ← Nat.pow_succ]
      congr 2
      omega
theorem cRn_point {a dc : Nat} (h0 : ¬ dc = 0) : cRn a dc (dc + 1) = cRn a dc dc := by
  unfold cRn
  rw [if_neg h0, if_neg h0, if_neg (by omega), if_pos (Nat.le_refl _), Nat.add_sub_cancel]
theorem cRn_zero {a dc i : Nat} (hi : cFs dc ≤ i) (h : cRn a dc i = 0) : ∀ r, cRn a dc (i + r) = 0
  | 0 => h
  | r + 1 => by
    rw [← Nat.add_assoc, cRn_succ, cRn_zero hi h r]
    intro z
    unfold cFs at hi
    rw [if_neg z.1] at hi
    omega
theorem mSW_n {a dc : Nat} (ha : a < 2 ^ 63) : ∀ (r n : Nat) (g : Nat → Int32), cFs dc ≤ n → (∀ i, i < n → g i = cDn a dc i) → (mSW (r + 1) (lN (cRn a dc n)) n g).1 = (match sr (sP a dc) r (n + 1) with | none => n + 1 + r | some i => i) ∧ ∀ i, i < (mSW (r + 1) (lN (cRn a dc n)) n g).1 → (mSW (r + 1) (lN (cRn a dc n)) n g).2 i = cDn a dc i := by
  intro r
  induction r with
  | zero =>
    intro n g hn hg
    have hne : ¬ (¬ dc = 0 ∧ n = dc) := by
      intro z
      unfold cFs at hn
      rw [if_neg z.1] at hn
      omega
    have h1 : mSW 1 (lN (cRn a dc n)) n g = (n + 1, upd g n (mDg (lN (cRn a dc n)))) := by
      rw [mSW]
      split
      · rfl
      · rfl
    rw [h1]
    refine ⟨rfl, fun i hi => ?_⟩
    dsimp only at hi ⊢
    rw [mDg_n (cRn_lt ha)]
    by_cases hin : i = n
    · subst hin
      rw [pk_us]
      unfold cDn
      rw [if_neg hne]
    · rw [pk_un hin]
      exact hg i (by omega)
  | succ r ih =>
    intro n g hn hg
    have hne : ¬ (¬ dc = 0 ∧ n = dc) := by
      intro z
      unfold cFs at hn
      rw [if_neg z.1] at hn
      omega
    have hg' : ∀ i, i < n + 1 → upd g n (mDg (lN (cRn a dc n))) i = cDn a dc i := by
      intro i hi
      rw [mDg_n (cRn_lt ha)]
      by_cases hin : i = n
      · subst hin
        rw [pk_us]
        unfold cDn
        rw [if_neg hne]
      · rw [pk_un hin]
        exact hg i (by omega)
    have e1 : lN (cRn a dc n) / 10 = lN (cRn a dc (n + 1)) := by rw [l_div (cRn_lt ha), cRn_succ hne]
    rw [mSW, e1, lgc (cRn_lt ha), sr]
    by_cases hz : cRn a dc (n + 1) = 0
    · have hp : sP a dc (n + 1) = true := decide_eq_true ⟨by omega, hz⟩
      rw [if_pos hz, if_pos (by decide), if_pos hp]
      exact ⟨rfl, hg'⟩
    · have hp : ¬ sP a dc (n + 1) = true := fun y => hz (of_decide_eq_true y).2
      rw [if_neg hz, if_neg (by decide), if_neg hp]
      obtain ⟨i1, i2⟩ := ih (n + 1) _ (by omega) hg'
      refine ⟨?_, i2⟩
      rw [i1]
      cases sr (sP a dc) r (n + 1 + 1) with
      | none => show n + 1 + 1 + r = n + 1 + (r + 1); omega
      | some i => rfl
theorem mSD_d {a dc : Nat} (ha : a < 2 ^ 63) (h0 : ¬ dc = 0) : ∀ (r n : Nat) (g : Nat → Int32), n + r = dc → (∀ i, i < n → g i = cDn a dc i) → (mSD r (lN (cRn a dc n)) n g).1 = lN (cRn a dc dc) ∧ ∀ i, i < dc → (mSD r (lN (cRn a dc n)) n g).2.2 i = cDn a dc i
  | 0, n, g, hr, hg => by
    have : n = dc := by omega
    subst this
    exact ⟨rfl, hg⟩
  | r + 1, n, g, hr, hg => by
    have hne : ¬ (¬ dc = 0 ∧ n = dc) := by omega
    rw [mSD, l_div (cRn_lt ha), ← cRn_succ hne]
    refine mSD_d ha h0 r (n + 1) _ (by omega) (fun i hi => ?_)
    rw [mDg_n (cRn_lt ha)]
    by_cases hin : i = n
    · subst hin
      rw [pk_us]
      unfold cDn
      rw [if_neg hne]
    · rw [pk_un hin]
      exact hg i (by omega)
theorem sr_skip {p : Nat → Bool} : ∀ (j m i : Nat), (∀ k, i ≤ k → k < i + j → p k = false) → sr p (j + m) i = sr p m (i + j)
  | 0, m, i, _ => by rw [Nat.zero_add, Nat.add_zero]
  | j + 1, m, i, h => by
    rw [show j + 1 + m = (j + m) + 1 by omega, sr, if_neg (by rw [h i (Nat.le_refl _) (by omega)]; decide), sr_skip j m (i + 1) (fun k h1 h2 => h k (by omega) (by omega))]
    congr 1
    omega
theorem mSpell_n {a dc L : Nat} (ha : a < 2 ^ 63) (hL : 1 ≤ L) (hd : dc = 0 ∨ dc < L) (g : Nat → Int32) : (mSpell (lN a) dc L g).1 = sN a dc L ∧ ∀ i, i < sN a dc L → (mSpell (lN a) dc L g).2 i = cDn a dc i := by
  have hs : ∀ j m, j + m = L → j ≤ cFs dc + 1 → sr (sP a dc) L 0 = sr (sP a dc) m j := by
    intro j m e hj
    have hk : ∀ k, 0 ≤ k → k < 0 + j → sP a dc k = false := by
      intro k _ hk
      unfold sP
      exact decide_eq_false (fun z => absurd z.1 (by omega))
    rw [← e, sr_skip j m 0 hk, Nat.zero_add]
  have hN : sN a dc L = match sr (sP a dc) L 0 with | none => L | some i => i := rfl
  by_cases h0 : dc = 0
  · subst h0
    have hm : mSpell (lN a) 0 L g = mSW L (lN a) 0 g := rfl
    have e0 : cRn a 0 0 = a := by unfold cRn; rw [if_pos rfl, Nat.pow_zero, Nat.div_one]
    obtain ⟨r, rfl⟩ : ∃ r, L = r + 1 := ⟨L - 1, by omega⟩
    obtain ⟨i1, i2⟩ := mSW_n (dc := 0) ha r 0 g (Nat.zero_le _) (fun i hi => absurd hi (Nat.not_lt_zero _))
    rw [e0] at i1 i2
    rw [hm]
    have e1 : (mSW (r + 1) (lN a) 0 g).1 = sN a 0 (r + 1) := by
      rw [i1, hN, hs 1 r (by omega) (by omega)]
      cases sr (sP a 0) r (0 + 1) with
      | none => show 0 + 1 + r = r + 1; omega
      | some i => rfl
    exact ⟨e1, fun i hi => i2 i (by rw [e1]; exact hi)⟩
  · have hdL : dc < L := by omega
    have hf : cFs dc = dc + 1 := by unfold cFs; rw [if_neg h0]
    have e0 : cRn a dc 0 = a := by unfold cRn; rw [if_neg h0, if_pos (Nat.zero_le _), Nat.pow_zero, Nat.div_one]
    obtain ⟨j1, j2⟩ := mSD_d ha h0 dc 0 g (by omega) (fun i hi => absurd hi (Nat.not_lt_zero _))
    rw [e0] at j1 j2
    have hm : mSpell (lN a) dc L g = mSW (L - (dc + 1)) (mSD dc (lN a) 0 g).1 (dc + 1) (upd (mSD dc (lN a) 0 g).2.2 dc 46) := by
      unfold mSpell
      rw [if_neg h0]
    have hg : ∀ i, i < dc + 1 → upd (mSD dc (lN a) 0 g).2.2 dc 46 i = cDn a dc i := by
      intro i hi
      by_cases hin : i = dc
      · subst hin
        rw [pk_us]
        unfold cDn
        rw [if_pos ⟨h0, rfl⟩]
      · rw [pk_un hin]
        exact j2 i (by omega)
    rw [hm, j1, ← cRn_point h0]
    by_cases hLd : L = dc + 1
    · have e1 : sN a dc L = dc + 1 := by
        rw [hN, hs L 0 (by omega) (by omega), hLd]
        rfl
      rw [e1, hLd, Nat.sub_self]
      exact ⟨rfl, hg⟩
    · obtain ⟨r, hr⟩ : ∃ r, L - (dc + 1) = r + 1 := ⟨L - (dc + 1) - 1, by omega⟩
      rw [hr]
      obtain ⟨i1, i2⟩ := mSW_n (dc := dc) ha r (dc + 1) (upd (mSD dc (lN a) 0 g).2.2 dc 46) (by omega) hg
      have e1 : (mSW (r + 1) (lN (cRn a dc (dc + 1))) (dc + 1) (upd (mSD dc (lN a) 0 g).2.2 dc 46)).1 = sN a dc L := by
        rw [i1, hN, hs (dc + 2) r (by omega) (by omega)]
        cases sr (sP a dc) r (dc + 1 + 1) with
        | none => show dc + 1 + 1 + r = L; omega
        | some i => rfl
      exact ⟨e1, fun i hi => i2 i (by rw [e1]; exact hi)⟩
theorem sN_le (a dc L : Nat) : sN a dc L ≤ L := by
  unfold sN
  split
  · exact Nat.le_refl _
  · rename_i i hi
    have := (sr_some hi).2.1
    omega
/-- behind the spelling are noughts -/
theorem sN_z {a dc L i : Nat} (h1 : sN a dc L ≤ i) (h2 : i < L) : cDn a dc i = 48 ∧ cFs dc < i := by
  unfold sN at h1
  cases hs : sr (fun i => decide (cFs dc < i ∧ cRn a dc i = 0)) L 0 with
  | none => rw [hs] at h1; exact absurd h1 (by show ¬ L ≤ i; omega)
  | some k =>
    rw [hs] at h1
    have h1 : k ≤ i := h1
    have hk := of_decide_eq_true (sr_some hs).2.2
    have hz : cRn a dc i = 0 := by
      have := cRn_zero (i := k) (by omega) hk.2 (i - k)
      rwa [show k + (i - k) = i by omega] at this
    refine ⟨?_, by omega⟩
    unfold cDn
    rw [if_neg, hz]
    · rfl
    · intro z
      have := hk.1
      unfold cFs at this
      rw [if_neg z.1] at this
      omega
/-- the signs, with the minus -/
def eN (a dc L : Nat) (no ng : Bool) : Nat := if no = true then L else if ng = true ∧ sN a dc L < L then sN a dc L + 1 else sN a dc L
def eD (a dc L : Nat) (no ng : Bool) (i : Nat) : Int32 := if no = true then (if ng = true ∧ cDn a dc (L - 1) = 48 ∧ i = L - 1 then 45 else cDn a dc i) else if ng = true ∧ i = sN a dc L then 45 else cDn a dc i
theorem mZF_at : ∀ (r n : Nat) (g : Nat → Int32) (i : Nat), mZF r n g i = if n ≤ i ∧ i < n + r then 48 else g i
  | 0, n, g, i => by rw [mZF, if_neg (by omega)]
  | r + 1, n, g, i => by
    rw [mZF, mZF_at r (n + 1)]
    by_cases h : n + 1 ≤ i ∧ i < n + 1 + r
    · rw [if_pos h, if_pos (by omega)]
    · rw [if_neg h]
      by_cases hi : i = n
      · subst hi
        rw [pk_us, if_pos (by omega)]
      · rw [pk_un hi, if_neg (by omega)]
theorem mFl_n {t : Nat → Nat → Int32} {m f : Nat} {v : Int32} {a L dc : Nat} (hv : mV v = lN a) (ha : a < 2 ^ 63) (hL : 1 ≤ L) (e3 : nv (t 8 (fI m f 3)) = L) (e7 : nv (t 8 (fI m f 7)) = dc) (hd : dc = 0 ∨ dc < L) {no ng : Bool} (hno : t 8 (fI m f 11) = 1 ↔ no = true) (hng : ¬ 0 ≤ v ↔ ng = true) : (mFl t m f v).1 = eN a dc L no ng ∧ ∀ i, i < eN a dc L no ng → (mFl t m f v).2 i = eD a dc L no ng i := by
  obtain ⟨s1, s2⟩ := mSpell_n ha hL hd (t 12)
  unfold mFl eN eD
  dsimp only
  rw [e3, e7, hv]
  generalize mSpell (lN a) dc L (t 12) = sp at s1 s2
  have hle := sN_le a dc L
  by_cases h1 : t 8 (fI m f 11) = 1
  · have hn := hno.mp h1
    simp only [if_pos h1, if_pos hn]
    refine ⟨trivial, fun i hi => ?_⟩
    have hD : ∀ i, i < L → mZF (L - sp.1) sp.1 sp.2 i = cDn a dc i := by
      intro i hi
      rw [mZF_at, s1]
      by_cases h : sN a dc L ≤ i ∧ i < sN a dc L + (L - sN a dc L)
      · rw [if_pos h, (sN_z h.1 (by omega)).1]
      · rw [if_neg h]
        exact s2 i (by omega)
    by_cases hc : ¬ 0 ≤ v ∧ mZF (L - sp.1) sp.1 sp.2 (L - 1) = 48
    · rw [if_pos hc]
      rw [hD (L - 1) (by omega)] at hc
      by_cases hi1 : i = L - 1
      · rw [hi1, pk_us, if_pos ⟨hng.mp hc.1, hc.2, rfl⟩]
      · rw [pk_un hi1, if_neg (fun z => hi1 z.2.2)]
        exact hD i hi
    · rw [if_neg hc]
      rw [hD (L - 1) (by omega)] at hc
      rw [if_neg (fun z => hc ⟨hng.mpr z.1, z.2.1⟩)]
      exact hD i hi
  · have hn : ¬ no = true := fun z => h1 (hno.mpr z)
    simp only [if_neg h1, if_neg hn]
    by_cases hc : ¬ 0 ≤ v ∧ sp.1 < L
    · rw [if_pos hc]
      have hc' := hc
      rw [s1] at hc'
      have hg := hng.mp hc.1
      rw [if_pos ⟨hg, hc'.2⟩]
      refine ⟨by rw [s1], fun i hi => ?_⟩
      dsimp only
      by_cases hi1 : i = sp.1
      · rw [hi1, pk_us, if_pos ⟨hg, s1⟩]
      · rw [pk_un hi1, if_neg (fun z => hi1 (by rw [s1]; exact z.2))]
        exact s2 i (by omega)
    · rw [if_neg hc]
      rw [s1] at hc
      rw [if_neg (fun z => hc ⟨hng.mpr z.1, z.2⟩)]
      refine ⟨s1, fun i hi => ?_⟩
      rw [if_neg (fun z => by have := z.2; omega)]
      exact s2 i hi
theorem mEd_at {fr n : Nat} {g e0 : Nat → Int32} : ∀ (K k : Nat), k < K → mEd fr n g e0 K k = if fr ≤ k ∧ k < fr + n then g (n - 1 - (k - fr)) else 32
  | 0, k, h => absurd h (Nat.not_lt_zero _)
  | K + 1, k, h => by
    rw [mEd]
    by_cases hk : k = K
    · subst hk
      rw [pk_us]
    · rw [pk_un hk]
      exact mEd_at K k (by omega)
/-- signs are bytes -/
theorem cDn_ps (a dc i : Nat) : ps (cDn a dc i) 126 := by
  unfold cDn
  split
  · exact ps.nI (a := 46) (by decide) (by decide)
  · exact ps.nI (by have := Nat.mod_lt (cRn a dc i) (y := 10) (by decide); omega) (by decide)
theorem eD_ps (a dc L : Nat) (no ng : Bool) (i : Nat) : ps (eD a dc L no ng i) 126 := by
  have h45 : ps 45 126 := ps.nI (a := 45) (by decide) (by decide)
  unfold eD
  split
  · split
    · exact h45
    · exact cDn_ps _ _ _
  · split
    · exact h45
    · exact cDn_ps _ _ _
