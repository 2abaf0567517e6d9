/-! A LINE: one pass against the reference's -/
abbrev dgt (c : Int32) : Prop := 48 ≤ c ∧ c ≤ 57
/-- scanNumbers -/
def cSc (x : Nat → Int32) : Nat → Nat → Nat → Nat → (Nat → Int32) → Bool × Nat × (Nat → Int32)
  | 0, _, _, n, g => (true, n, g)
  | r + 1, p, dg, n, g => if x p = 32 then cSc x r (p + 1) 0 n g else if ¬ dgt (x p) ∨ 3 ≤ dg then (false, n, g) else
      if dg = 0 then (if 5 ≤ n then (false, n, g) else cSc x r (p + 1) 1 (n + 1) (upd (upd g n 0) n (upd g n 0 n * 10 + x p - 48))) else cSc x r (p + 1) (dg + 1) n (upd g (n - 1) (g (n - 1) * 10 + x p - 48))
theorem dgt_nb {c : Int32} (h : dgt c) : ¬ c = 32 := by
  intro z
  rw [z] at h
  exact absurd h (by decide)
theorem cSc_blank (x : Nat → Int32) : ∀ (j r p dg n : Nat) (g : Nat → Int32), (∀ i, p ≤ i → i < p + (j + 1) → x i = 32) → cSc x (j + 1 + r) p dg n g = cSc x r (p + (j + 1)) 0 n g
  | 0, r, p, dg, n, g, h => by
    rw [show 0 + 1 + r = r + 1 by omega, cSc, if_pos (h p (Nat.le_refl _) (by omega))]
  | j + 1, r, p, dg, n, g, h => by
    rw [show j + 1 + 1 + r = (j + 1 + r) + 1 by omega, cSc, if_pos (h p (Nat.le_refl _) (by omega)), cSc_blank x j r (p + 1) 0 n g (fun i h1 h2 => h i (by omega) (by omega))]
    congr 1
    omega
theorem mSk_all (x : Nat → Int32) : ∀ (r p : Nat), (∀ i, p ≤ i → i < mSk x r p → x i = 32) ∧ (mSk x r p < p + r → ¬ x (mSk x r p) = 32)
  | 0, p => ⟨fun i h1 h2 => absurd h2 (by rw [mSk]; omega), fun h => absurd h (by rw [mSk]; omega)⟩
  | r + 1, p => by
    rw [mSk]
    split
    · rename_i h
      obtain ⟨i1, i2⟩ := mSk_all x r (p + 1)
      refine ⟨fun i h1 h2 => ?_, fun hlt => i2 (by omega)⟩
      by_cases hip : i = p
      · rw [hip]; exact h
      · exact i1 i (by omega) h2
    · rename_i h
      exact ⟨fun i h1 h2 => absurd h2 (by omega), fun _ => h⟩
theorem mNs_ge (x : Nat → Int32) (q : Nat) : ∀ (r p n : Nat) (g : Nat → Int32), n ≤ (mNs x q r p n g).2.1
  | 0, p, n, g => Nat.le_refl _
  | r + 1, p, n, g => by
    rw [mNs]
    split
    · split
      · exact Nat.le_refl _
      · split
        · exact Nat.le_refl _
        · split
          · exact Nat.le_refl _
          · exact Nat.le_trans (Nat.le_succ n) (mNs_ge x q r _ _ _)
    · exact Nat.le_refl _
/-- a number: at most three digits, and none behind them -/
theorem cSc_num {x : Nat → Int32} {q p n : Nat} {g : Nat → Int32} (hp : p < q) (hd : dgt (x p)) (hn : n ≤ 4) :
    (∃ (k : Nat) (g' : Nat → Int32), 1 ≤ k ∧ k ≤ 3 ∧ p + k ≤ q ∧ (mPd x q 4 p 0).1 = p + k ∧ cSc x (q - p) p 0 n g = cSc x (q - (p + k)) (p + k) k (n + 1) g' ∧ g' n = (mPd x q 4 p 0).2 ∧ (∀ j, j < n → g' j = g j) ∧ (p + k < q → k = 3 ∨ ¬ dgt (x (p + k))) ∧ (p + k < q → ¬ dgt (x (p + k)))) ∨
    (p + 3 < (mPd x q 4 p 0).1 ∧ (cSc x (q - p) p 0 n g).1 = false) := by
  have nb := dgt_nb hd
  have s0 : cSc x (q - p) p 0 n g = cSc x (q - (p + 1)) (p + 1) 1 (n + 1) (upd (upd g n 0) n (upd g n 0 n * 10 + x p - 48)) := by
    rw [show q - p = (q - (p + 1)) + 1 by omega, cSc, if_neg nb, if_neg (fun z => z.elim (fun y => y hd) (by omega)), if_pos rfl, if_neg (by omega)]
  have step : ∀ (k : Nat) (g : Nat → Int32), 1 ≤ k → k ≤ 2 → p + k < q → dgt (x (p + k)) → cSc x (q - (p + k)) (p + k) k (n + 1) g = cSc x (q - (p + (k + 1))) (p + (k + 1)) (k + 1) (n + 1) (upd g n (g n * 10 + x (p + k) - 48)) := by
    intro k g h1 h2 h3 h4
    rw [show q - (p + k) = (q - (p + (k + 1))) + 1 by omega, cSc, if_neg (dgt_nb h4), if_neg (fun z => z.elim (fun y => y h4) (by omega)), if_neg (by omega), Nat.add_sub_cancel]
    rfl
  have keep : ∀ (g1 : Nat → Int32) (v : Int32), (∀ j, j < n → g1 j = g j) → ∀ j, j < n → upd g1 n v j = g j := fun g1 v h j hj => by rw [pk_un (by omega)]; exact h j hj
  have k0 : ∀ j, j < n → upd (upd g n 0) n (upd g n 0 n * 10 + x p - 48) j = g j := fun j hj => by rw [pk_un (by omega), pk_un (by omega)]
  have v0 : upd (upd g n 0) n (upd g n 0 n * 10 + x p - 48) n = 10 * 0 + x p - 48 := by
    rw [pk_us, pk_us, Int32.zero_mul, Int32.mul_zero]
  have m4 : mPd x q 4 p 0 = mPd x q 3 (p + 1) (10 * 0 + x p - 48) := by rw [mPd, if_pos ⟨hp, hd⟩]
  rw [s0, m4]
  generalize upd (upd g n 0) n (upd g n 0 n * 10 + x p - 48) = g1 at k0 v0
  generalize (10 : Int32) * 0 + x p - 48 = w1 at v0
  by_cases c1 : p + 1 < q ∧ dgt (x (p + 1))
  case neg =>
    have m3 : mPd x q 3 (p + 1) w1 = (p + 1, w1) := by rw [mPd, if_neg c1]
    rw [m3]
    exact Or.inl ⟨1, g1, by omega, by omega, by omega, rfl, rfl, v0, k0, fun h => Or.inr (fun y => c1 ⟨h, y⟩), fun h y => c1 ⟨h, y⟩⟩
  case pos =>
  have m3 : mPd x q 3 (p + 1) w1 = mPd x q 2 (p + 2) (10 * w1 + x (p + 1) - 48) := by rw [mPd, if_pos c1]
  rw [m3, step 1 g1 (by omega) (by omega) c1.1 c1.2]
  have k1 := keep g1 (g1 n * 10 + x (p + 1) - 48) k0
  have v1 : upd g1 n (g1 n * 10 + x (p + 1) - 48) n = 10 * w1 + x (p + 1) - 48 := by rw [pk_us, v0, Int32.mul_comm]
  generalize upd g1 n (g1 n * 10 + x (p + 1) - 48) = g2 at k1 v1
  generalize (10 : Int32) * w1 + x (p + 1) - 48 = w2 at v1
  by_cases c2 : p + 2 < q ∧ dgt (x (p + 2))
  case neg =>
    have m2 : mPd x q 2 (p + 2) w2 = (p + 2, w2) := by rw [mPd, if_neg c2]
    rw [m2]
    exact Or.inl ⟨2, g2, by omega, by omega, by omega, rfl, rfl, v1, k1, fun h => Or.inr (fun y => c2 ⟨h, y⟩), fun h y => c2 ⟨h, y⟩⟩
  case pos =>
  have m2 : mPd x q 2 (p + 2) w2 = mPd x q 1 (p + 3) (10 * w2 + x (p + 2) - 48) := by rw [mPd, if_pos c2]
  rw [m2, step 2 g2 (by omega) (by omega) c2.1 c2.2]
  have k2 := keep g2 (g2 n * 10 + x (p + 2) - 48) k1
  have v2 : upd g2 n (g2 n * 10 + x (p + 2) - 48) n = 10 * w2 + x (p + 2) - 48 := by rw [pk_us, v1, Int32.mul_comm]
  generalize upd g2 n (g2 n * 10 + x (p + 2) - 48) = g3 at k2 v2
  generalize (10 : Int32) * w2 + x (p + 2) - 48 = w3 at v2
  by_cases c3 : p + 3 < q ∧ dgt (x (p + 3))
  case neg =>
    have m1 : mPd x q 1 (p + 3) w3 = (p + 3, w3) := by rw [mPd, if_neg c3]
    rw [m1]
    exact Or.inl ⟨3, g3, by omega, by omega, by omega, rfl, rfl, v2, k2, fun h => Or.inl rfl, fun h y => c3 ⟨h, y⟩⟩
  case pos =>
  have m1 : mPd x q 1 (p + 3) w3 = (p + 4, 10 * w3 + x (p + 3) - 48) := by rw [mPd, if_pos c3]; rfl
  rw [m1]
  refine Or.inr ⟨by show p + 3 < p + 4; omega, ?_⟩
  rw [show q - (p + (2 + 1)) = (q - (p + 4)) + 1 by omega, cSc, if_neg (dgt_nb c3.2), if_pos (Or.inr (by omega))]
theorem cSc_eq {x : Nat → Int32} {q : Nat} : ∀ (c r p n dg : Nat) (g g' : Nat → Int32), q - p ≤ c → p ≤ q → q ≤ p + r → n ≤ 5 → (∀ j, j < n → g' j = g j) → (p < q → 3 ≤ dg ∨ ¬ dgt (x p)) →
    ((mNs x q r p n g).1 = true ∧ (mNs x q r p n g).2.1 ≤ 5 ↔ (cSc x (q - p) p dg n g').1 = true) ∧ ((cSc x (q - p) p dg n g').1 = true → (cSc x (q - p) p dg n g').2.1 = (mNs x q r p n g).2.1 ∧ ∀ j, j < (mNs x q r p n g).2.1 → (cSc x (q - p) p dg n g').2.2 j = (mNs x q r p n g).2.2 j) := by
  intro c
  induction c with
  | zero =>
    intro r p n dg g g' hc hpq hr hn hg _
    have hp : p = q := by omega
    subst hp
    have e1 : mNs x p r p n g = (true, n, g) := by
      cases r with
      | zero => rfl
      | succ r => rw [mNs, if_neg (by omega)]
    rw [e1, Nat.sub_self]
    exact ⟨⟨fun _ => rfl, fun _ => ⟨rfl, hn⟩⟩, fun _ => ⟨rfl, hg⟩⟩
  | succ c ih =>
    intro r p n dg g g' hc hpq hr hn hg hdg
    by_cases hp : p = q
    · exact ih r p n dg g g' (by omega) hpq hr hn hg hdg
    have hlt : p < q := by omega
    obtain ⟨r, rfl⟩ : ∃ r', r = r' + 1 := ⟨r - 1, by omega⟩
    have hsk := mSk_ge x (q - p) p
    obtain ⟨sk1, sk2⟩ := mSk_all x (q - p) p
    rw [mNs, if_pos hlt]
    generalize hp1 : mSk x (q - p) p = p1 at *
    by_cases hz : p1 = p
    · -- no blank
      have hx : ¬ x p = 32 := by
        have := sk2 (by omega)
        rwa [hz] at this
      have hf : cSc x (q - p) p dg n g' = (false, n, g') := by
        rw [show q - p = (q - p - 1) + 1 by omega, cSc, if_neg hx, if_pos ((hdg hlt).elim (fun y => Or.inr y) (fun y => Or.inl y))]
      rw [hf, if_neg (by omega), if_pos (Or.inl hz)]
      exact ⟨⟨(fun y => nomatch y.1), (fun y => nomatch y)⟩, (fun y => nomatch y)⟩
    · have hb : cSc x (q - p) p dg n g' = cSc x (q - p1) p1 0 n g' := by
        have := cSc_blank x (p1 - p - 1) (q - p1) p dg n g' (fun i h1 h2 => sk1 i h1 (by omega))
        rw [show p1 - p - 1 + 1 + (q - p1) = q - p by omega, show p + (p1 - p - 1 + 1) = p1 by omega] at this
        exact this
      rw [hb]
      by_cases hq : p1 = q
      · rw [if_pos hq, hq, Nat.sub_self]
        exact ⟨⟨fun _ => rfl, fun _ => ⟨rfl, hn⟩⟩, fun _ => ⟨rfl, hg⟩⟩
      · rw [if_neg hq, if_neg (by omega)]
        have hp1q : p1 < q := by omega
        have hx1 : ¬ x p1 = 32 := sk2 (by omega)
        by_cases hd : dgt (x p1)
        · by_cases hn5 : n = 5
          · -- a sixth number
            have hf : (cSc x (q - p1) p1 0 n g').1 = false := by
              rw [show q - p1 = (q - p1 - 1) + 1 by omega, cSc, if_neg hx1, if_neg (fun z => z.elim (fun y => y hd) (by omega)), if_pos rfl, if_pos (by omega)]
            have hA : ¬ ((if (mPd x q 4 p1 0).1 = p1 ∨ p1 + 3 < (mPd x q 4 p1 0).1 then (false, n, g) else mNs x q r (mPd x q 4 p1 0).1 (n + 1) (upd g n (mPd x q 4 p1 0).2)).1 = true ∧ (if (mPd x q 4 p1 0).1 = p1 ∨ p1 + 3 < (mPd x q 4 p1 0).1 then (false, n, g) else mNs x q r (mPd x q 4 p1 0).1 (n + 1) (upd g n (mPd x q 4 p1 0).2)).2.1 ≤ 5) := by
              split
              · intro y; cases y.1
              · intro y
                have := mNs_ge x q r (mPd x q 4 p1 0).1 (n + 1) (upd g n (mPd x q 4 p1 0).2)
                have := y.2
                omega
            refine ⟨⟨fun y => absurd y hA, fun y => by rw [hf] at y; cases y⟩, fun y => by rw [hf] at y; cases y⟩
          · rcases cSc_num (g := g') hp1q hd (show n ≤ 4 by omega) with ⟨k, g2, k1, k2, k3, e1, e2, e3, e4, e5, -⟩ | ⟨b1, b2⟩
            · rw [if_neg (by rw [e1]; omega), e2, e1]
              refine ih r (p1 + k) (n + 1) k (upd g n (mPd x q 4 p1 0).2) g2 (by omega) k3 (by omega) (by omega) (fun j hj => ?_) (fun h => (e5 h).elim (fun y => Or.inl (by omega)) Or.inr)
              by_cases hjn : j = n
              · rw [hjn, pk_us]; exact e3
              · rw [pk_un hjn, e4 j (by omega)]
                exact hg j (by omega)
            · rw [if_pos (Or.inr b1)]
              exact ⟨⟨(fun y => nomatch y.1), (fun y => absurd (y.symm.trans b2) (by decide))⟩, (fun y => absurd (y.symm.trans b2) (by decide))⟩
        · have e1 : (mPd x q 4 p1 0).1 = p1 := by rw [mPd, if_neg (fun y => hd y.2)]
          have hf : cSc x (q - p1) p1 0 n g' = (false, n, g') := by
            rw [show q - p1 = (q - p1 - 1) + 1 by omega, cSc, if_neg hx1, if_pos (Or.inl hd)]
          rw [hf, if_pos (Or.inl e1)]
          exact ⟨⟨(fun y => nomatch y.1), (fun y => nomatch y)⟩, (fun y => nomatch y)⟩
