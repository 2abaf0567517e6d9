/-! THE REFERENCE: its object at b, its twelve arrays behind it; s: its numbers by field, t: its arrays by place -/
def mLn (j : Nat) : Nat := match j with
  | 1 => 3000
  | 2 => 18000
  | 3 => 7
  | 4 => 48
  | 5 => 48
  | 6 => 48
  | 7 => 48
  | 8 => 20160
  | 9 => 6
  | 10 => 80
  | 11 => 4096
  | 12 => 90
  | _ => 0
def mF (b : Nat) (s : Nat → Int32) : List Value := [.int (s 0), .ref (b + 1), .int (s 2), .ref (b + 2), .ref (b + 3), .ref (b + 4), .ref (b + 5), .ref (b + 6), .ref (b + 7), .ref (b + 8), .int (s 10), .int (s 11), .int (s 12), .int (s 13), .int (s 14), .ref (b + 9), .int (s 16), .int (s 17), .int (s 18), .int (s 19), .ref (b + 10), .int (s 21), .ref (b + 11), .int (s 23), .int (s 24), .int (s 25), .ref (b + 12), .int (s 27)]
/-- since h0 nothing outside lo .. hi has changed -/
def fr (lo hi : Nat) (h0 h : im_H) : Prop := h.length = h0.length ∧ im_sz h = im_sz h0 ∧ ∀ k : Nat, (k < lo ∨ hi ≤ k) → h[k]? = h0[k]?
theorem fr.rf {lo hi : Nat} {h : im_H} : fr lo hi h h := ⟨rfl, rfl, fun _ _ => rfl⟩
theorem fr.tr {lo hi : Nat} {a b c : im_H} (x : fr lo hi a b) (y : fr lo hi b c) : fr lo hi a c := ⟨y.1.trans x.1, y.2.1.trans x.2.1, fun k hk => (y.2.2 k hk).trans (x.2.2 k hk)⟩
theorem fr.set {lo hi o : Nat} {h0 h : im_H} {x y : im_C} (f : fr lo hi h0 h) (hx : h[o]? = some x) (hs : im_sc y = im_sc x) (h1 : lo ≤ o) (h2 : o < hi) : fr lo hi h0 (h.set o y) :=
  ⟨by rw [List.length_set]; exact f.1, (im_sz_set hx hs).trans f.2.1, fun k hk => by rw [List.getElem?_set_ne (by omega)]; exact f.2.2 k hk⟩
def MM (b : Nat) (h0 h : im_H) (s : Nat → Int32) (t : Nat → Nat → Int32) : Prop := fr b (b + 13) h0 h ∧ h[b]? = some (.inr (8, mF b s)) ∧ ∀ j : Nat, 1 ≤ j → j ≤ 12 → h[b + j]? = some (.inl (0, mLn j, .inl (t j)))
theorem MM.put {b k : Nat} {h0 h : im_H} {s : Nat → Int32} {t : Nat → Nat → Int32} (hM : MM b h0 h s t) {v : Int32} (hl : (mF b s).set k (.int v) = mF b (upd s k v)) : MM b h0 (h.set b (.inr (8, (mF b s).set k (.int v)))) (upd s k v) t := by
  obtain ⟨h1, h2, h3⟩ := hM
  rw [hl]
  refine ⟨h1.set h2 rfl (Nat.le_refl _) (by omega), ?_, fun j a c => ?_⟩
  · rw [List.getElem?_set_self (List.getElem?_eq_some_iff.mp h2).1]
  · rw [List.getElem?_set_ne (by omega)]
    exact h3 j a c
theorem MM.ast {b j : Nat} {h0 h : im_H} {s : Nat → Int32} {t : Nat → Nat → Int32} (hM : MM b h0 h s t) (hj : 1 ≤ j) (hj2 : j ≤ 12) (f : Nat → Int32) : MM b h0 (h.set (b + j) (.inl (0, mLn j, .inl f))) s (va_up t j f) := by
  obtain ⟨h1, h2, h3⟩ := hM
  refine ⟨h1.set (h3 j hj hj2) rfl (by omega) (by omega), ?_, fun i a c => ?_⟩
  · rw [List.getElem?_set_ne (by omega)]
    exact h2
  · by_cases hij : i = j
    · subst hij
      rw [List.getElem?_set_self (List.getElem?_eq_some_iff.mp (h3 i a c)).1, va_up_self]
    · rw [List.getElem?_set_ne (by omega), va_up_ne _ _ hij]
      exact h3 i a c
theorem mLn_lt (j : Nat) : mLn j < 2 ^ 31 := by
  unfold mLn
  split <;> decide
section MROW
variable {call : Nat → im_F} {ret : Option FieldType} {cd : List (Nat × im_X)} {pc : Nat} {L : im_L} {st : List Value} {h0 h : im_H} {Q : Option Value → im_H → Prop} {b : Nat} {s : Nat → Int32} {t : Nat → Nat → Int32}
theorem mPut {idx k : Nat} {v : Int32} (hM : MM b h0 h s t) (hf : im_f cd pc = some (.putfield idx, 8, k)) (hk : k < 28) (hl : (mF b s).set k (.int v) = mF b (upd s k v)) {ty : FieldType} (hty : (tb_F 8)[k]? = some ty) (hfit : im_fit ty (.int v) = true) (kk : ∀ h', MM b h0 h' (upd s k v) t → gG tb_T call ret cd (pc + 3) L st h' Q) : gG tb_T call ret cd pc L (.int v :: .ref b :: st) h Q :=
  gG.put hf hM.2.1 hk hty hfit (kk _ (hM.put hl))
theorem mAst {j n a1 a2 : Nat} {i v : Int32} (hM : MM b h0 h s t) (hf : im_f cd pc = some (.iastore, a1, a2)) (hj : 1 ≤ j) (hj2 : j ≤ 12) (hi : i = nI n) (hn : n < mLn j) (kk : ∀ h', MM b h0 h' s (va_up t j (upd (t j) n v)) → gG tb_T call ret cd (pc + 1) L st h' Q) : gG tb_T call ret cd pc L (.int v :: .int i :: .ref (b + j) :: st) h Q :=
  gG.iast hf (hM.2.2 j hj hj2) hi hn (mLn_lt j) (kk _ (hM.ast hj hj2 _))
theorem mAld {j n a1 a2 : Nat} {i : Int32} (hM : MM b h0 h s t) (hf : im_f cd pc = some (.iaload, a1, a2)) (hj : 1 ≤ j) (hj2 : j ≤ 12) (hi : i = nI n) (hn : n < mLn j) (kk : gG tb_T call ret cd (pc + 1) L (.int (t j n) :: st) h Q) : gG tb_T call ret cd pc L (.int i :: .ref (b + j) :: st) h Q :=
  gG.iald hf (hM.2.2 j hj hj2) hi hn (mLn_lt j) kk
theorem mGet {idx k : Nat} {v : Value} (hM : MM b h0 h s t) (hf : im_f cd pc = some (.getfield idx, 8, k)) (hv : (mF b s)[k]? = some v) (kk : gG tb_T call ret cd (pc + 3) L (v :: st) h Q) : gG tb_T call ret cd pc L (.ref b :: st) h Q :=
  gG.get hf hM.2.1 hv kk
/-- a call of a method of the reference's own object -/
theorem mVir {idx y n : Nat} {vs rest : List Value} (hM : MM b h0 h s t) (hf : im_f cd pc = some (.invokevirtual idx, y, n)) (hy : y / 64 = 8) (hb : st[n - 1]? = some (.ref b)) (hn : n ≤ st.length) (hv : (st.take n).reverse = vs) (hr : st.drop n = rest) (hc : (rest.map fun v => v.category).sum ≤ 8)
    (k : gC call y vs h (fun r h' => gG tb_T call ret cd (pc + 3) L (r.toList ++ rest) h' Q)) : gG tb_T call ret cd pc L st h Q := by
  refine gG.inv hf (fun m => ?_) hn hv hr hc k
  show (if im_rcv (some (y / 64)) st[n - 1]? h = true then im_inv (call m) y n (pc + 3) L st h else none) = _
  rw [if_pos]
  rw [hb, hy]
  unfold im_rcv
  simp only [hM.2.1]
  rfl
end MROW
/-- the first place i, from i on, m of them, where p holds -/
def sr (p : Nat → Bool) : Nat → Nat → Option Nat
  | 0, _ => none
  | m + 1, i => if p i = true then some i else sr p m (i + 1)
theorem nI_m1 : (-1 : Int32) = Int32.ofInt (-1) := rfl
