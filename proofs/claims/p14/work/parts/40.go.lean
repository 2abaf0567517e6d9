/-! RUNS, by what comes behind: from here on only the small machine is spoken of -/
def tb_T : im_T := (tb_F, none)
def tb_M : Nat → Option im_M := im_tM tb_mt
/-- from this place on, with callees of depth d, the run ends and Q holds of the answer and the cells -/
def gG (T : im_T) (call : Nat → im_F) (ret : Option FieldType) (cd : List (Nat × im_X)) (pc : Nat) (L : im_L) (st : List Value) (h : im_H) (Q : Option Value → im_H → Prop) : Prop :=
  ∃ (r : Option Value) (h' : im_H), Q r h' ∧ ∃ n0 : Nat, ∀ n k : Nat, n0 ≤ n → n0 ≤ k → im_run T (call n) ret cd k pc L st h = some (r, h')
/-- a call -/
def gC (call : Nat → im_F) (y : Nat) (vs : List Value) (h : im_H) (Q : Option Value → im_H → Prop) : Prop :=
  ∃ (r : Option Value) (h' : im_H), Q r h' ∧ ∃ n0 : Nat, ∀ n : Nat, n0 ≤ n → call n y vs h = some (r, h')
def gD (d : Nat) (n : Nat) : im_F := im_exec tb_T tb_M im_nat d n
theorem gC.mono {call : Nat → im_F} {y : Nat} {vs : List Value} {h : im_H} {Q Q' : Option Value → im_H → Prop} (hc : gC call y vs h Q) (hq : ∀ r h', Q r h' → Q' r h') : gC call y vs h Q' := by
  obtain ⟨r, h', h1, h2⟩ := hc
  exact ⟨r, h', hq r h' h1, h2⟩
theorem gG.mono {T : im_T} {call : Nat → im_F} {ret : Option FieldType} {cd : List (Nat × im_X)} {pc : Nat} {L : im_L} {st : List Value} {h : im_H} {Q Q' : Option Value → im_H → Prop} (hc : gG T call ret cd pc L st h Q) (hq : ∀ r h', Q r h' → Q' r h') : gG T call ret cd pc L st h Q' := by
  obtain ⟨r, h', h1, h2⟩ := hc
  exact ⟨r, h', hq r h' h1, h2⟩
section GO
variable {T : im_T} {call : Nat → im_F} {ret : Option FieldType} {cd : List (Nat × im_X)} {pc : Nat} {L : im_L} {st : List Value} {h : im_H} {Q : Option Value → im_H → Prop}
theorem gG.step {x : im_X} {pc' : Nat} {L' : im_L} {st' : List Value} {h' : im_H} (hf : im_f cd pc = some x) (hs : ∀ n, im_step T (call n) ret x pc L st h = some (.inl (pc', L', st', h'))) (k : gG T call ret cd pc' L' st' h' Q) : gG T call ret cd pc L st h Q := by
  obtain ⟨r, h2, hq, n0, hr⟩ := k
  refine ⟨r, h2, hq, n0 + 1, fun n k hn hk => ?_⟩
  obtain ⟨k', rfl⟩ : ∃ k', k = k' + 1 := ⟨k - 1, by omega⟩
  rw [im_run, hf]
  show (im_step T (call n) ret x pc L st h).bind _ = _
  rw [hs n]
  exact hr n k' (by omega) (by omega)
theorem gG.done {x : im_X} {r : Option Value} {h' : im_H} (hf : im_f cd pc = some x) (hs : ∀ n, im_step T (call n) ret x pc L st h = some (.inr (r, h'))) (k : Q r h') : gG T call ret cd pc L st h Q := by
  refine ⟨r, h', k, 1, fun n k hn hk => ?_⟩
  obtain ⟨k', rfl⟩ : ∃ k', k = k' + 1 := ⟨k - 1, by omega⟩
  rw [im_run, hf]
  show (im_step T (call n) ret x pc L st h).bind _ = _
  rw [hs n]
  rfl
/-- a call within a run -/
theorem gG.inv {i : Instr} {y n : Nat} {vs rest : List Value} (hf : im_f cd pc = some (i, y, n)) (hi : ∀ m, im_step T (call m) ret (i, y, n) pc L st h = im_inv (call m) y n (pc + 3) L st h) (hn : n ≤ st.length) (hv : (st.take n).reverse = vs) (hr : st.drop n = rest) (hc : (rest.map fun v => v.category).sum ≤ 8)
    (k : gC call y vs h (fun r h' => gG T call ret cd (pc + 3) L (r.toList ++ rest) h' Q)) : gG T call ret cd pc L st h Q := by
  subst hv; subst hr
  obtain ⟨r, h', ⟨r2, h2, hq, n1, hr2⟩, n0, hr⟩ := k
  refine ⟨r2, h2, hq, n0 + n1 + 1, fun n k hn' hk => ?_⟩
  obtain ⟨k', rfl⟩ : ∃ k', k = k' + 1 := ⟨k - 1, by omega⟩
  rw [im_run, hf]
  show (im_step T (call n) ret _ pc L st h).bind _ = _
  rw [hi n]
  unfold im_inv
  rw [if_pos hn, if_pos hc, hr n (by omega)]
  exact hr2 n k' (by omega) (by omega)
end GO
/-- a method of the table -/
theorem gC.of {d y : Nat} {q : im_M} {vs : List Value} {h : im_H} {Q : Option Value → im_H → Prop} {L : im_L} (hM : tb_M y = some q) (hl : (im_sl vs).length ≤ q.2.1) (hL : im_ent vs q.2.1 = L) (k : gG tb_T (gD d) q.2.2 q.1 0 L [] h Q) : gC (gD (d + 1)) y vs h Q := by
  subst hL
  obtain ⟨r, h', hq, n0, hr⟩ := k
  refine ⟨r, h', hq, n0, fun n hn => ?_⟩
  show im_exec tb_T tb_M im_nat (d + 1) n y vs h = _
  rw [im_exec, hM]
  show (if (im_sl vs).length ≤ q.2.1 then _ else _) = _
  rw [if_pos hl]
  exact hr n n hn hn
theorem gC.nat {d y : Nat} {vs : List Value} {h : im_H} {Q : Option Value → im_H → Prop} {r : Option Value} {h' : im_H} (hM : tb_M y = none) (hn : im_nat y vs h = some (r, h')) (k : Q r h') : gC (gD (d + 1)) y vs h Q := by
  refine ⟨r, h', k, 0, fun n _ => ?_⟩
  show im_exec tb_T tb_M im_nat (d + 1) n y vs h = _
  rw [im_exec, hM]
  exact hn
section GO2
variable {T : im_T} {call : Nat → im_F} {ret : Option FieldType} {cd : List (Nat × im_X)} {pc : Nat} {L : im_L} {st : List Value} {h : im_H} {Q : Option Value → im_H → Prop}
/-- a field is read -/
theorem gG.get {idx ci k o : Nat} {fs : List Value} {v : Value} (hf : im_f cd pc = some (.getfield idx, ci, k)) (hx : h[o]? = some (.inr (ci, fs))) (hv : fs[k]? = some v) (kk : gG T call ret cd (pc + 3) L (v :: st) h Q) : gG T call ret cd pc L (.ref o :: st) h Q := by
  refine gG.step hf (fun n => ?_) kk
  show im_get ci k (pc + 3) L (.ref o :: st) h = _
  simp only [im_get, hx, if_true, hv]
  rfl
/-- a field is written -/
theorem gG.put {idx ci k o : Nat} {fs : List Value} {v : Value} {ty : FieldType} (hf : im_f cd pc = some (.putfield idx, ci, k)) (hx : h[o]? = some (.inr (ci, fs))) (hk : k < fs.length) (hty : (T.1 ci)[k]? = some ty) (hfit : im_fit ty v = true) (kk : gG T call ret cd (pc + 3) L st (h.set o (.inr (ci, fs.set k v))) Q) : gG T call ret cd pc L (v :: .ref o :: st) h Q := by
  refine gG.step hf (fun n => ?_) kk
  show im_putf T ci k (pc + 3) L (v :: .ref o :: st) h = _
  simp only [im_putf, hx, if_true, if_pos hk, hty, Option.bind, if_pos hfit]
  rfl
theorem gG.iald {o n : Nat} {f : Nat → Int32} {i : Int32} {j a1 a2 : Nat} (hf : im_f cd pc = some (.iaload, a1, a2)) (hx : h[o]? = some (.inl (0, n, .inl f))) (hi : i = nI j) (hj : j < n) (hn : n < 2 ^ 31) (kk : gG T call ret cd (pc + 1) L (.int (f j) :: st) h Q) : gG T call ret cd pc L (.int i :: .ref o :: st) h Q := by
  subst hi
  have hc : (nI j).toNatClampNeg = j := nI_clamp (by omega)
  have ho : ¬ im_out (nI j) n = true := by
    unfold im_out
    rw [decide_eq_true_iff]
    exact nI_in hj hn
  refine gG.step hf (fun m => ?_) kk
  show im_aldi T 0 (pc + 1) L (.int (nI j) :: .ref o :: st) h = _
  simp only [im_aldi, hx, if_true, if_neg ho, hc]
  rfl
theorem gG.bald {o n : Nat} {f : Nat → Int32} {i : Int32} {j a1 a2 : Nat} (hf : im_f cd pc = some (.baload, a1, a2)) (hx : h[o]? = some (.inl (1, n, .inl f))) (hi : i = nI j) (hj : j < n) (hn : n < 2 ^ 31) (kk : gG T call ret cd (pc + 1) L (.int (f j) :: st) h Q) : gG T call ret cd pc L (.int i :: .ref o :: st) h Q := by
  subst hi
  have hc : (nI j).toNatClampNeg = j := nI_clamp (by omega)
  have ho : ¬ im_out (nI j) n = true := by
    unfold im_out
    rw [decide_eq_true_iff]
    exact nI_in hj hn
  refine gG.step hf (fun m => ?_) kk
  show im_aldi T 1 (pc + 1) L (.int (nI j) :: .ref o :: st) h = _
  simp only [im_aldi, hx, if_true, if_neg ho, hc]
  rfl
theorem gG.aald {o n ci : Nat} {f : Nat → Option Nat} {i : Int32} {j a2 : Nat} (hf : im_f cd pc = some (.aaload, ci, a2)) (hx : h[o]? = some (.inl (3 + ci, n, .inr (.inr (.inr (.inr f)))))) (hi : i = nI j) (hj : j < n) (hn : n < 2 ^ 31) (kk : gG T call ret cd (pc + 1) L (va_rf (f j) :: st) h Q) : gG T call ret cd pc L (.int i :: .ref o :: st) h Q := by
  subst hi
  have hc : (nI j).toNatClampNeg = j := nI_clamp (by omega)
  have ho : ¬ im_out (nI j) n = true := by
    unfold im_out
    rw [decide_eq_true_iff]
    exact nI_in hj hn
  refine gG.step hf (fun m => ?_) kk
  show im_aldr ci (pc + 1) L (.int (nI j) :: .ref o :: st) h = _
  simp only [im_aldr, hx, if_true, if_neg ho, hc]
  rfl
theorem gG.iast {o n : Nat} {f : Nat → Int32} {i x : Int32} {j a1 a2 : Nat} (hf : im_f cd pc = some (.iastore, a1, a2)) (hx : h[o]? = some (.inl (0, n, .inl f))) (hi : i = nI j) (hj : j < n) (hn : n < 2 ^ 31) (kk : gG T call ret cd (pc + 1) L st (h.set o (.inl (0, n, .inl (upd f j x)))) Q) : gG T call ret cd pc L (.int x :: .int i :: .ref o :: st) h Q := by
  subst hi
  have hc : (nI j).toNatClampNeg = j := nI_clamp (by omega)
  have ho : ¬ im_out (nI j) n = true := by
    unfold im_out
    rw [decide_eq_true_iff]
    exact nI_in hj hn
  refine gG.step hf (fun m => ?_) kk
  show im_asti 0 (pc + 1) L (.int x :: .int (nI j) :: .ref o :: st) h = _
  simp only [im_asti, hx, if_true, if_neg ho, hc]
  rfl
theorem gG.bast {o n : Nat} {f : Nat → Int32} {i x : Int32} {j a1 a2 : Nat} (hf : im_f cd pc = some (.bastore, a1, a2)) (hx : h[o]? = some (.inl (1, n, .inl f))) (hi : i = nI j) (hj : j < n) (hn : n < 2 ^ 31) (kk : gG T call ret cd (pc + 1) L st (h.set o (.inl (1, n, .inl (upd f j x.toInt8.toInt32)))) Q) : gG T call ret cd pc L (.int x :: .int i :: .ref o :: st) h Q := by
  subst hi
  have hc : (nI j).toNatClampNeg = j := nI_clamp (by omega)
  have ho : ¬ im_out (nI j) n = true := by
    unfold im_out
    rw [decide_eq_true_iff]
    exact nI_in hj hn
  refine gG.step hf (fun m => ?_) kk
  show im_asti 1 (pc + 1) L (.int x :: .int (nI j) :: .ref o :: st) h = _
  simp only [im_asti, hx, if_true, if_neg ho, hc]
  rfl
theorem gG.aast {o n ci v : Nat} {vs : List Value} {f : Nat → Option Nat} {i : Int32} {j a2 : Nat} (hf : im_f cd pc = some (.aastore, ci, a2)) (hx : h[o]? = some (.inl (3 + ci, n, .inr (.inr (.inr (.inr f)))))) (hv : h[v]? = some (.inr (ci, vs))) (hi : i = nI j) (hj : j < n) (hn : n < 2 ^ 31) (kk : gG T call ret cd (pc + 1) L st (h.set o (.inl (3 + ci, n, .inr (.inr (.inr (.inr (va_up f j (some v)))))))) Q) : gG T call ret cd pc L (.ref v :: .int i :: .ref o :: st) h Q := by
  subst hi
  have hc : (nI j).toNatClampNeg = j := nI_clamp (by omega)
  have ho : ¬ im_out (nI j) n = true := by
    unfold im_out
    rw [decide_eq_true_iff]
    exact nI_in hj hn
  refine gG.step hf (fun m => ?_) kk
  show im_astr ci (pc + 1) L (.ref v :: .int (nI j) :: .ref o :: st) h = _
  simp only [im_astr, hx, hv, and_self, if_true, if_neg ho, hc]
  rfl
theorem gG.alen {o n tk a2 : Nat} {x : vp_A} (hf : im_f cd pc = some (.arraylength, tk, a2)) (hx : h[o]? = some (.inl (tk, x))) (hn : x.1 = n) (kk : gG T call ret cd (pc + 1) L (.int (nI n) :: st) h Q) : gG T call ret cd pc L (.ref o :: st) h Q := by
  subst hn
  refine gG.step hf (fun m => ?_) kk
  obtain ⟨x1, x2⟩ := x
  show im_alen T tk (pc + 1) L (.ref o :: st) h = _
  simp only [im_alen, hx, if_true]
  rfl
/-- a branch on two numbers -/
theorem gG.icmp {c : ClassFile.Cond} {off : Int} {a b : Int32} {a1 a2 tgt : Nat} (hf : im_f cd pc = some (.if_icmp c off, a1, a2)) (ht : (pc : Int) + off = (tgt : Int)) (kt : im_cmp c a b = true → gG T call ret cd tgt L st h Q) (kf : ¬ im_cmp c a b = true → gG T call ret cd (pc + 3) L st h Q) : gG T call ret cd pc L (.int b :: .int a :: st) h Q := by
  by_cases hc : im_cmp c a b = true
  · refine gG.step hf (fun n => ?_) (kt hc)
    show (if im_cmp c a b = true then im_jmp pc off L st h else im_go (pc + 3) L st h) = _
    rw [if_pos hc]
    unfold im_jmp
    rw [ht, if_pos (Int.natCast_nonneg tgt), Int.toNat_natCast]
    rfl
  · refine gG.step hf (fun n => ?_) (kf hc)
    show (if im_cmp c a b = true then im_jmp pc off L st h else im_go (pc + 3) L st h) = _
    rw [if_neg hc]
    rfl
theorem gG.ifc {c : ClassFile.Cond} {off : Int} {a : Int32} {a1 a2 tgt : Nat} (hf : im_f cd pc = some (.ifCond c off, a1, a2)) (ht : (pc : Int) + off = (tgt : Int)) (kt : im_cmp c a 0 = true → gG T call ret cd tgt L st h Q) (kf : ¬ im_cmp c a 0 = true → gG T call ret cd (pc + 3) L st h Q) : gG T call ret cd pc L (.int a :: st) h Q := by
  by_cases hc : im_cmp c a 0 = true
  · refine gG.step hf (fun n => ?_) (kt hc)
    show (if im_cmp c a 0 = true then im_jmp pc off L st h else im_go (pc + 3) L st h) = _
    rw [if_pos hc]
    unfold im_jmp
    rw [ht, if_pos (Int.natCast_nonneg tgt), Int.toNat_natCast]
    rfl
  · refine gG.step hf (fun n => ?_) (kf hc)
    show (if im_cmp c a 0 = true then im_jmp pc off L st h else im_go (pc + 3) L st h) = _
    rw [if_neg hc]
    rfl
theorem gG.goto {off : Int} {a1 a2 tgt : Nat} (hf : im_f cd pc = some (.goto off, a1, a2)) (ht : (pc : Int) + off = (tgt : Int)) (k : gG T call ret cd tgt L st h Q) : gG T call ret cd pc L st h Q := by
  refine gG.step hf (fun n => ?_) k
  show im_jmp pc off L st h = _
  unfold im_jmp
  rw [ht, if_pos (Int.natCast_nonneg tgt), Int.toNat_natCast]
  rfl
end GO2
