section IMU
variable {p : Program} {l : Launch} {e : Env} {R : Room} {s : State} {m : MethodId} {args : Array Value} {below : List Frame} {meth : Method} {c : Code} {Q : State → Prop} {H : Heap} {locs : List Loc}
variable {D : va_G} {cl : List vw_C} {tys : List (ClassId × FieldType)} {B b : Nat} {cc : ByteArray} {own mn : String} {TB : List Jvm.Cond} {T : im_T} {pc : Nat} {ls : Array Slot} {h : im_H}
theorem im_bin_W {cells slots : Nat} (hexec : p.tables.exec = Jvm.exec) (hb : c.code = cc) {i : Instr} {x y z : Int32} {rest : List Value} (hz : im_bin i x y = some z) (hdg : decode cc pc = .ok (i, 1)) (kk : W p l e R s m args below meth c H locs cells slots Q (F0 m (pc + 1) ls (.int z :: rest))) : W p l e R s m args below meth c H locs cells slots Q (F0 m pc ls (.int y :: .int x :: rest)) := by
  unfold im_bin at hz
  split at hz
  · cases hz; exact lv_iadd hexec hb hdg kk
  · cases hz; exact lv_isub hexec hb hdg kk
  · cases hz; exact lv_imul hexec hb hdg kk
  · cases hz; exact lv_iand hexec hb hdg kk
  · cases hz; exact lv_ior hexec hb hdg kk
  · cases hz; exact lv_ixor hexec hb hdg kk
  · cases hz; exact lv_ishl hexec hb hdg kk
  · cases hz; exact lv_ishr hexec hb hdg kk
  · cases hz; exact lv_iushr hexec hb hdg rfl kk
  · split at hz
    · cases hz
    · rename_i hne
      cases hz; exact lv_idiv hexec hb hdg hne kk
  · split at hz
    · cases hz
    · rename_i hne
      cases hz; exact lv_irem hexec hb hdg hne kk
  · cases hz
theorem im_lbin_W {cells slots : Nat} (hexec : p.tables.exec = Jvm.exec) (hb : c.code = cc) {i : Instr} {x y z : Int64} {rest : List Value} (hz : im_lbin i x y = some z) (hdg : decode cc pc = .ok (i, 1)) (kk : W p l e R s m args below meth c H locs cells slots Q (F0 m (pc + 1) ls (.long z :: rest))) : W p l e R s m args below meth c H locs cells slots Q (F0 m pc ls (.long y :: .long x :: rest)) := by
  unfold im_lbin at hz
  split at hz
  · cases hz; exact lv_ladd hexec hb hdg kk
  · cases hz; exact lv_lsub hexec hb hdg kk
  · cases hz; exact lv_lmul hexec hb hdg kk
  · split at hz
    · cases hz
    · rename_i hne
      cases hz; exact lv_ldiv hexec hb hdg hne kk
  · split at hz
    · cases hz
    · rename_i hne
      cases hz; exact lv_lrem hexec hb hdg hne kk
  · cases hz
theorem im_icmp_W {cells slots : Nat} (hexec : p.tables.exec = Jvm.exec) (hb : c.code = cc) {cd : ClassFile.Cond} {x y : Int32} {rest : List Value} {off : Int} {tgt : Nat} (hdg : decode cc pc = .ok (.if_icmp cd off, 3)) (ht : (pc : Int) + off = (tgt : Int))
    (kt : im_cmp cd x y = true → W p l e R s m args below meth c H locs cells slots Q (F0 m tgt ls rest)) (kf : ¬ im_cmp cd x y = true → W p l e R s m args below meth c H locs cells slots Q (F0 m (pc + 3) ls rest)) : W p l e R s m args below meth c H locs cells slots Q (F0 m pc ls (.int y :: .int x :: rest)) := by
  cases cd
  · exact lv_icmp_eq hexec hb hdg ht (fun q => kt (decide_eq_true q)) (fun q => kf (by simpa [im_cmp] using q))
  · exact lv_icmp_ne hexec hb hdg ht (fun q => kt (decide_eq_true q)) (fun q => kf (by simpa [im_cmp] using q))
  · exact lv_icmp_lt hexec hb hdg ht (fun q => kt (decide_eq_true q)) (fun q => kf (by simpa [im_cmp] using q))
  · exact lv_icmp_ge hexec hb hdg ht (fun q => kt (decide_eq_true q)) (fun q => kf (by simpa [im_cmp] using q))
  · exact lv_icmp_gt hexec hb hdg ht (fun q => kt (decide_eq_true q)) (fun q => kf (by simpa [im_cmp] using q))
  · exact lv_icmp_le hexec hb hdg ht (fun q => kt (decide_eq_true q)) (fun q => kf (by simpa [im_cmp] using q))
theorem im_if_W {cells slots : Nat} (hexec : p.tables.exec = Jvm.exec) (hb : c.code = cc) {cd : ClassFile.Cond} {x : Int32} {rest : List Value} {off : Int} {tgt : Nat} (hdg : decode cc pc = .ok (.ifCond cd off, 3)) (ht : (pc : Int) + off = (tgt : Int))
    (kt : im_cmp cd x 0 = true → W p l e R s m args below meth c H locs cells slots Q (F0 m tgt ls rest)) (kf : ¬ im_cmp cd x 0 = true → W p l e R s m args below meth c H locs cells slots Q (F0 m (pc + 3) ls rest)) : W p l e R s m args below meth c H locs cells slots Q (F0 m pc ls (.int x :: rest)) := by
  cases cd
  · exact lv_if_eq hexec hb hdg ht (fun q => kt (decide_eq_true q)) (fun q => kf (by simpa [im_cmp] using q))
  · exact lv_if_ne hexec hb hdg ht (fun q => kt (decide_eq_true q)) (fun q => kf (by simpa [im_cmp] using q))
  · exact lv_if_lt hexec hb hdg ht (fun q => kt (decide_eq_true q)) (fun q => kf (by simpa [im_cmp] using q))
  · exact lv_if_ge hexec hb hdg ht (fun q => kt (decide_eq_true q)) (fun q => kf (by simpa [im_cmp] using q))
  · exact lv_if_gt hexec hb hdg ht (fun q => kt (decide_eq_true q)) (fun q => kf (by simpa [im_cmp] using q))
  · exact lv_if_le hexec hb hdg ht (fun q => kt (decide_eq_true q)) (fun q => kf (by simpa [im_cmp] using q))
/-- what stands still in a method's walk: the machine, the code, the tables; the script, where it is read -/
def im_Cx (p : Program) (s : State) (m : MethodId) (meth : Method) (c : Code) (TB : List Jvm.Cond) (D : va_G) (cl : List vw_C) (tys : List (ClassId × FieldType)) (B b : Nat) (T : im_T) (cc : ByteArray) (own mn : String) : Prop :=
  p.tables.exec = Jvm.exec ∧ c.code = cc ∧ s.vm.findClass own = some m.cls ∧ meth.name = mn ∧ im_K TB D cl tys s ∧ im_cls TB T.1 cl ∧ im_kinds cl tys ∧ B ≤ s.heap.size ∧ ∀ q, T.2 = some q → va_X b q.1 q.2 s s.heap ∧ b < B
set_option maxHeartbeats 8000000 in
theorem im_sStep {call : im_F} {ret : Option FieldType} (hup : im_Cup call) (hx0 : im_Cx p s m meth c TB D cl tys B b T cc own mn) {x : im_X} (hd : im_dk cc pc x) (ho : im_ok TB cl own mn x) (hsite : im_isinv x.1 = true → im_Site p l e R s m args below meth c Q D cl tys B b call x pc)
    {L : im_L} {st : List Value} {q : im_R} (hs : im_step T call ret x pc L st h = some q) {n0 s0 : Nat} (hL : im_Lr B b ls L) (hml : L.length = c.maxLocals) (hW : im_W D cl tys B b h H) (hS : va_S (fun q => B ≤ q) s.heap H locs) (hn0 : n0 ≤ h.length) (hs0 : s0 ≤ im_sz h)
    (hcap : (im_hp q).length - n0 ≤ R.cells) (hcap2 : im_sz (im_hp q) - s0 ≤ R.slots)
    (kk : ∀ (pc' : Nat) (L' : im_L) (st' : List Value) (h' : im_H), q = .inl (pc', L', st', h') → ∀ (ls' : Array Slot) (H' : Heap) (locs' : List Loc), im_Lr B b ls' L' → L'.length = L.length → im_W D cl tys B b h' H' → va_S (fun q => B ≤ q) s.heap H' locs' → W p l e R s m args below meth c H' locs' (h'.length - n0) (im_sz h' - s0) Q (F0 m pc' ls' (st'.map (im_rv B b))))
    (kr : ∀ (r : Option Value), q = .inr (r, h) → im_End cc ret pc r → W p l e R s m args below meth c H locs (h.length - n0) (im_sz h - s0) Q (F0 m pc ls (r.toList.map (im_rv B b)))) :
    W p l e R s m args below meth c H locs (h.length - n0) (im_sz h - s0) Q (F0 m pc ls (st.map (im_rv B b))) := by
  obtain ⟨hexec, hb, hown, hmn, hK, hcl, hki, hB, hsc⟩ := hx0
  obtain ⟨i, a1, a2⟩ := x
  have hinv : im_isinv i = true → im_inv call a1 a2 (pc + 3) L st h = some q → (a2 ≤ st.length → im_Rc i a1 a2 (st.take a2).reverse h) → W p l e R s m args below meth c H locs (h.length - n0) (im_sz h - s0) Q (F0 m pc ls (st.map (im_rv B b))) := by
    intro hi hv hrc
    obtain ⟨h1, h2, r, h', h3, rfl⟩ := im_inv_some hv
    have hu := hup _ _ _ _ _ h3
    have hst : st.map (im_rv B b) = ((((st.take a2).reverse).map (im_rv B b)).reverse ++ (st.drop a2).map (im_rv B b)) := by
      rw [List.map_reverse, List.reverse_reverse, ← List.map_append, List.take_append_drop]
    rw [hst]
    have hc1 : h.length - n0 + (h'.length - h.length) = h'.length - n0 := by have := hu.1; omega
    have hc2 : im_sz h - s0 + (im_sz h' - im_sz h) = im_sz h' - s0 := by have := hu.2; omega
    refine hsite hi _ _ h r h' H locs _ _ ls h3 (by rw [List.length_reverse, List.length_take]; exact Nat.min_eq_left h1) (hrc h1) (by rw [im_rv_cats]; exact h2) hW hS (hL.1.1.trans hml) (by rw [hc1]; exact hcap) (by rw [hc2]; exact hcap2) (fun H1 locs1 hW1 hS1 => ?_)
    rw [hc1, hc2, ← List.map_append]
    exact kk _ _ _ _ rfl ls H1 locs1 hL rfl hW1 hS1
  cases i with
  | iconst n =>
    exact lv_iconst hexec hb hd rfl (kk _ _ _ _ (im_go_some hs) ls H locs hL rfl hW hS)
  | bipush n =>
    exact lv_bipush hexec hb hd rfl (kk _ _ _ _ (im_go_some hs) ls H locs hL rfl hW hS)
  | sipush n =>
    exact lv_sipush hexec hb hd rfl (kk _ _ _ _ (im_go_some hs) ls H locs hL rfl hW hS)
  | lconst n =>
    exact lv_lconst hexec hb hd rfl (kk _ _ _ _ (im_go_some hs) ls H locs hL rfl hW hS)
  | ldc2_w n =>
    exact lv_ldc2 hexec hb hown (hK.1 _ ho args) hd (kk _ _ _ _ (im_go_some hs) ls H locs hL rfl hW hS)
  | aconst_null =>
    exact lv_null hexec hb hd (kk _ _ _ _ (im_go_some hs) ls H locs hL rfl hW hS)
  | iload_n n =>
    obtain ⟨v, h1, h2, ⟨-, x, rfl⟩ | ⟨h0, -⟩ | ⟨h0, -⟩⟩ := im_load_some hs
    · exact lv_iload_n hexec hb hd rfl (hL.2 _ _ h1) (kk _ _ _ _ h2 ls H locs hL rfl hW hS)
    · cases h0
    · cases h0
  | iload n =>
    obtain ⟨v, h1, h2, ⟨-, x, rfl⟩ | ⟨h0, -⟩ | ⟨h0, -⟩⟩ := im_load_some hs
    · exact lv_iload hexec hb hd (hL.2 _ _ h1) (kk _ _ _ _ h2 ls H locs hL rfl hW hS)
    · cases h0
    · cases h0
  | lload_n n =>
    obtain ⟨v, h1, h2, ⟨h0, -⟩ | ⟨-, x, rfl⟩ | ⟨h0, -⟩⟩ := im_load_some hs
    · cases h0
    · exact lv_lload_n hexec hb hd rfl (hL.2 _ _ h1) (kk _ _ _ _ h2 ls H locs hL rfl hW hS)
    · cases h0
  | lload n =>
    obtain ⟨v, h1, h2, ⟨h0, -⟩ | ⟨-, x, rfl⟩ | ⟨h0, -⟩⟩ := im_load_some hs
    · cases h0
    · exact lv_lload hexec hb hd (hL.2 _ _ h1) (kk _ _ _ _ h2 ls H locs hL rfl hW hS)
    · cases h0
  | aload_n n =>
    obtain ⟨v, h1, h2, ⟨h0, -⟩ | ⟨h0, -⟩ | ⟨-, ⟨x, rfl⟩ | rfl | ⟨x, rfl⟩⟩⟩ := im_load_some hs
    · cases h0
    · cases h0
    · exact lv_aload_n hexec hb hd rfl (hL.2 _ _ h1) (kk _ _ _ _ h2 ls H locs hL rfl hW hS)
    · exact lv_aload_nN hexec hb hd rfl (hL.2 _ _ h1) (kk _ _ _ _ h2 ls H locs hL rfl hW hS)
    · exact lv_aload_n hexec hb hd rfl (hL.2 _ _ h1) (kk _ _ _ _ h2 ls H locs hL rfl hW hS)
  | aload n =>
    obtain ⟨v, h1, h2, ⟨h0, -⟩ | ⟨h0, -⟩ | ⟨-, ⟨x, rfl⟩ | rfl | ⟨x, rfl⟩⟩⟩ := im_load_some hs
    · cases h0
    · cases h0
    · exact lv_aload hexec hb hd (hL.2 _ _ h1) (kk _ _ _ _ h2 ls H locs hL rfl hW hS)
    · exact lv_aloadN hexec hb hd (hL.2 _ _ h1) (kk _ _ _ _ h2 ls H locs hL rfl hW hS)
    · exact lv_aload hexec hb hd (hL.2 _ _ h1) (kk _ _ _ _ h2 ls H locs hL rfl hW hS)
  | istore_n n =>
    obtain ⟨v, r, L', rfl, h2, ⟨-, ⟨x, rfl⟩, h3⟩ | ⟨h0, -⟩ | ⟨h0, -⟩⟩ := im_store_some hs
    · exact lv_istore_n hexec hb hd rfl hL.has (im_s1_some h3).1 rfl (fun ls' hl => kk _ _ _ _ h2 ls' H locs (im_Lr.s1 h3 rfl hl) (im_s1_len h3) hW hS)
    · cases h0
    · cases h0
  | istore n =>
    obtain ⟨v, r, L', rfl, h2, ⟨-, ⟨x, rfl⟩, h3⟩ | ⟨h0, -⟩ | ⟨h0, -⟩⟩ := im_store_some hs
    · exact lv_istore hexec hb hd hL.has (im_s1_some h3).1 rfl (fun ls' hl => kk _ _ _ _ h2 ls' H locs (im_Lr.s1 h3 rfl hl) (im_s1_len h3) hW hS)
    · cases h0
    · cases h0
  | lstore_n n =>
    obtain ⟨v, r, L', rfl, h2, ⟨h0, -⟩ | ⟨-, ⟨x, rfl⟩, h3⟩ | ⟨h0, -⟩⟩ := im_store_some hs
    · cases h0
    · exact lv_lstore_n hexec hb hd rfl hL.has (im_s2_some h3).1 rfl (fun ls' hl => kk _ _ _ _ h2 ls' H locs (im_Lr.s2 h3 rfl hl) (im_s2_len h3) hW hS)
    · cases h0
  | lstore n =>
    obtain ⟨v, r, L', rfl, h2, ⟨h0, -⟩ | ⟨-, ⟨x, rfl⟩, h3⟩ | ⟨h0, -⟩⟩ := im_store_some hs
    · cases h0
    · exact lv_lstore hexec hb hd hL.has (im_s2_some h3).1 rfl (fun ls' hl => kk _ _ _ _ h2 ls' H locs (im_Lr.s2 h3 rfl hl) (im_s2_len h3) hW hS)
    · cases h0
  | astore_n n =>
    obtain ⟨v, r, L', rfl, h2, ⟨h0, -⟩ | ⟨h0, -⟩ | ⟨-, ⟨x, rfl⟩ | rfl, h3⟩⟩ := im_store_some hs
    · cases h0
    · cases h0
    · exact lv_astore_n hexec hb hd rfl hL.has (im_s1_some h3).1 rfl (fun ls' hl => kk _ _ _ _ h2 ls' H locs (im_Lr.s1 h3 rfl hl) (im_s1_len h3) hW hS)
    · exact lv_astore_nN hexec hb hd rfl hL.has (im_s1_some h3).1 rfl (fun ls' hl => kk _ _ _ _ h2 ls' H locs (im_Lr.s1 h3 rfl hl) (im_s1_len h3) hW hS)
  | astore n =>
    obtain ⟨v, r, L', rfl, h2, ⟨h0, -⟩ | ⟨h0, -⟩ | ⟨-, ⟨x, rfl⟩ | rfl, h3⟩⟩ := im_store_some hs
    · cases h0
    · cases h0
    · exact lv_astore hexec hb hd hL.has (im_s1_some h3).1 rfl (fun ls' hl => kk _ _ _ _ h2 ls' H locs (im_Lr.s1 h3 rfl hl) (im_s1_len h3) hW hS)
    · exact lv_astoreN hexec hb hd hL.has (im_s1_some h3).1 rfl (fun ls' hl => kk _ _ _ _ h2 ls' H locs (im_Lr.s1 h3 rfl hl) (im_s1_len h3) hW hS)
  | iinc n k =>
    simp only [im_step] at hs
    split at hs
    · rename_i z hz
      obtain ⟨L', h1, h2⟩ := Option.bind_eq_some_iff.mp hs
      obtain ⟨j, hj⟩ := List.getElem?_of_mem (im_pr_mem (B := B) (b := b) hz)
      exact lv_iinc hexec hb hd hL.has hj rfl (im_s1_some h1).1 rfl (fun ls' hl => kk _ _ _ _ (im_go_some h2) ls' H locs (im_Lr.s1 h1 rfl hl) (im_s1_len h1) hW hS)
    · cases hs
  | iadd | isub | imul | iand | ior | ixor | ishl | ishr | iushr | idiv | irem =>
    simp only [im_step] at hs
    split at hs
    · obtain ⟨z, h1, h2⟩ := Option.bind_eq_some_iff.mp hs
      exact im_bin_W hexec hb h1 hd (kk _ _ _ _ (im_go_some h2) ls H locs hL rfl hW hS)
    · cases hs
  | ladd | lsub | lmul | ldiv | lrem =>
    simp only [im_step] at hs
    split at hs
    · obtain ⟨z, h1, h2⟩ := Option.bind_eq_some_iff.mp hs
      exact im_lbin_W hexec hb h1 hd (kk _ _ _ _ (im_go_some h2) ls H locs hL rfl hW hS)
    · cases hs
  | ineg =>
    simp only [im_step] at hs
    split at hs
    · exact lv_ineg hexec hb hd (kk _ _ _ _ (im_go_some hs) ls H locs hL rfl hW hS)
    · cases hs
  | lneg =>
    simp only [im_step] at hs
    split at hs
    · exact lv_lneg hexec hb hd (kk _ _ _ _ (im_go_some hs) ls H locs hL rfl hW hS)
    · cases hs
  | lcmp =>
    simp only [im_step] at hs
    split at hs
    · exact W.lcmp hexec hb hd (kk _ _ _ _ (im_go_some hs) ls H locs hL rfl hW hS)
    · cases hs
  | i2l =>
    simp only [im_step] at hs
    split at hs
    · exact lv_i2l hexec hb hd rfl (kk _ _ _ _ (im_go_some hs) ls H locs hL rfl hW hS)
    · cases hs
  | l2i =>
    simp only [im_step] at hs
    split at hs
    · exact lv_l2i hexec hb hd rfl (kk _ _ _ _ (im_go_some hs) ls H locs hL rfl hW hS)
    · cases hs
  | i2b =>
    simp only [im_step] at hs
    split at hs
    · exact lv_i2b hexec hb hd rfl (kk _ _ _ _ (im_go_some hs) ls H locs hL rfl hW hS)
    · cases hs
  | dup =>
    simp only [im_step] at hs
    split at hs
    · split at hs
      · rename_i hcat
        exact lv_dup hexec hb hd (by rw [im_rv_cat]; exact hcat) (kk _ _ _ _ (im_go_some hs) ls H locs hL rfl hW hS)
      · cases hs
    · cases hs
  | pop =>
    simp only [im_step] at hs
    split at hs
    · split at hs
      · rename_i hcat
        exact lv_pop hexec hb hd (by rw [im_rv_cat]; exact hcat) (kk _ _ _ _ (im_go_some hs) ls H locs hL rfl hW hS)
      · cases hs
    · cases hs
  | dup2 =>
    simp only [im_step] at hs
    split at hs
    · split at hs
      · rename_i hcat
        exact lv_dup2_11 hexec hb hd (by rw [im_rv_cat]; exact hcat.1) (by rw [im_rv_cat]; exact hcat.2) (kk _ _ _ _ (im_go_some hs) ls H locs hL rfl hW hS)
      · cases hs
    · cases hs
  | goto off =>
    obtain ⟨h1, h2⟩ := im_jmp_some hs
    exact lv_goto hexec hb hd h1 (kk _ _ _ _ h2 ls H locs hL rfl hW hS)
  | ifCond cd off =>
    simp only [im_step] at hs
    split at hs
    · refine im_if_W hexec hb hd.1 (Int.toNat_of_nonneg hd.2).symm (fun hc => ?_) (fun hc => ?_)
      · rw [if_pos hc] at hs
        exact kk _ _ _ _ (im_jmp_some hs).2 ls H locs hL rfl hW hS
      · rw [if_neg hc] at hs
        exact kk _ _ _ _ (im_go_some hs) ls H locs hL rfl hW hS
    · cases hs
  | if_icmp cd off =>
    simp only [im_step] at hs
    split at hs
    · refine im_icmp_W hexec hb hd.1 (Int.toNat_of_nonneg hd.2).symm (fun hc => ?_) (fun hc => ?_)
      · rw [if_pos hc] at hs
        exact kk _ _ _ _ (im_jmp_some hs).2 ls H locs hL rfl hW hS
      · rw [if_neg hc] at hs
        exact kk _ _ _ _ (im_go_some hs) ls H locs hL rfl hW hS
    · cases hs
  | ifnull off =>
    simp only [im_step] at hs
    split at hs
    · obtain ⟨h1, h2⟩ := im_jmp_some hs
      exact lv_ifnullN hexec hb hd.1 h1 (kk _ _ _ _ h2 ls H locs hL rfl hW hS)
    · exact lv_ifnull hexec hb hd.1 (kk _ _ _ _ (im_go_some hs) ls H locs hL rfl hW hS)
    · cases hs
  | ifnonnull off =>
    simp only [im_step] at hs
    split at hs
    · obtain ⟨h1, h2⟩ := im_jmp_some hs
      exact lv_ifnonnull hexec hb hd.1 h1 (kk _ _ _ _ h2 ls H locs hL rfl hW hS)
    · exact lv_ifnonnullN hexec hb hd.1 (kk _ _ _ _ (im_go_some hs) ls H locs hL rfl hW hS)
    · cases hs
  | tableswitch dflt lo hi offs =>
    simp only [im_step] at hs
    split at hs
    · rename_i a r
      obtain ⟨off, h3, h4⟩ := Option.bind_eq_some_iff.mp hs
      obtain ⟨h1, h2⟩ := im_jmp_some h4
      unfold im_tsw at h3
      split at h3
      · rename_i hr
        cases h3
        exact lv_tableOut hexec hb hd hr h1 (kk _ _ _ _ h2 ls H locs hL rfl hW hS)
      · rename_i hr
        exact lv_tableIn hexec hb hd (fun z => hr (Or.inl z)) (fun z => hr (Or.inr z)) h3 h1 (kk _ _ _ _ h2 ls H locs hL rfl hW hS)
    · cases hs
  | lookupswitch dflt ps =>
    simp only [im_step] at hs
    split at hs
    · obtain ⟨h1, h2⟩ := im_jmp_some hs
      exact lv_lookup hexec hb hd ho rfl h1 (kk _ _ _ _ h2 ls H locs hL rfl hW hS)
    · cases hs
  | getfield idx =>
    obtain ⟨C, Tt, N, hc, hk, hlk⟩ := ho
    simp only [im_step, im_get] at hs
    split at hs
    · split at hs
      · rename_i hx
        split at hs
        · rename_i hci
          subst hci
          obtain ⟨v, h1, h2⟩ := Option.bind_eq_some_iff.mp hs
          exact im_rget hexec hb hown hK hcl hc hk hlk hW hx h1 hd (kk _ _ _ _ (im_go_some h2) ls H locs hL rfl hW hS)
        · cases hs
      · cases hs
    · cases hs
  | putfield idx =>
    obtain ⟨C, Tt, N, hc, hk, hlk⟩ := ho
    simp only [im_step, im_putf] at hs
    split at hs
    · split at hs
      · rename_i hx
        split at hs
        · rename_i hci
          subst hci
          split at hs
          · rename_i hl
            obtain ⟨ty, h1, h2⟩ := Option.bind_eq_some_iff.mp hs
            split at h2
            · rename_i hf
              have hq := im_go_some h2
              subst hq
              refine im_rput hexec hb hown hK hcl hc hk (by rw [hmn]; exact hlk) hW hS hx hl h1 hf hd (fun H1 locs1 hW1 hS1 => ?_)
              have hk2 := kk _ _ _ _ rfl ls H1 locs1 hL rfl hW1 hS1
              rw [List.length_set, im_sz_set hx (by simp [im_sc])] at hk2
              exact hk2
            · cases h2
          · cases hs
        · cases hs
      · cases hs
    · cases hs
  | iaload =>
    simp only [im_step, im_aldi] at hs
    split at hs
    · split at hs
      · rename_i hx
        split at hs
        · rename_i hkk
          subst hkk
          split at hs
          · cases hs
          · rename_i hin
            exact va_iald hexec hb hK.2 (im_P1 (hW.2 _ _ hx trivial)) 0 0 rfl (hki 0 .int rfl) (im_out_in hin) hd (kk _ _ _ _ (im_go_some hs) ls H locs hL rfl hW hS)
        · cases hs
      · cases hs
    · split at hs
      · obtain ⟨z, h1, h2⟩ := Option.bind_eq_some_iff.mp hs
        obtain ⟨hX, hbB⟩ := hsc z h1
        split at h2
        · cases h2
        · rename_i hin
          exact va_sld hexec hb hX (Nat.lt_of_lt_of_le hbB hB) (Nat.not_le.mpr hbB) hS (im_out_in hin) hd (kk _ _ _ _ (im_go_some h2) ls H locs hL rfl hW hS)
      · cases hs
    · cases hs
  | baload =>
    simp only [im_step, im_aldi] at hs
    split at hs
    · split at hs
      · rename_i hx
        split at hs
        · rename_i hkk
          subst hkk
          split at hs
          · cases hs
          · rename_i hin
            exact va_bald hexec hb hK.2 (im_P1 (hW.2 _ _ hx trivial)) 0 1 rfl (hki 1 .byte rfl) (im_out_in hin) hd (kk _ _ _ _ (im_go_some hs) ls H locs hL rfl hW hS)
        · cases hs
      · cases hs
    · split at hs
      · rename_i h0
        cases h0
      · cases hs
    · cases hs
  | laload =>
    simp only [im_step, im_aldl] at hs
    split at hs
    · split at hs
      · rename_i hx
        split at hs
        · rename_i hkk
          subst hkk
          split at hs
          · cases hs
          · rename_i hin
            exact va_lald hexec hb hK.2 (im_P1 (hW.2 _ _ hx trivial)) 0 2 rfl (hki 2 .long rfl) (im_out_in hin) hd (kk _ _ _ _ (im_go_some hs) ls H locs hL rfl hW hS)
        · cases hs
      · cases hs
    · cases hs
  | aaload =>
    simp only [im_step, im_aldr] at hs
    split at hs
    · split at hs
      · rename_i hx
        split at hs
        · rename_i hkk
          subst hkk
          split at hs
          · cases hs
          · rename_i hin
            obtain ⟨C, Tt, N, hc, hkj⟩ := ho
            have hkj : im_kk a1 = true := hkj
            have ht : tys[3 + a1]? = some (im_tc tys (3 + a1), .object C) := hki (3 + a1) (.object C) (by rw [Nat.add_comm]; show (if im_kk a1 = true then (cl[a1]?).map _ else none) = _; rw [if_pos hkj]; show (cl[a1]?).map _ = _; rw [hc]; rfl)
            refine va_aldq hexec hb hK.2 (im_P1 (hW.2 _ _ hx trivial)) 0 (3 + a1) rfl ht (im_out_in hin) hd ?_
            rw [im_rf B b]
            exact kk _ _ _ _ (im_go_some hs) ls H locs hL rfl hW hS
        · cases hs
      · cases hs
    · cases hs
  | iastore =>
    simp only [im_step, im_asti] at hs
    split at hs
    · split at hs
      · rename_i hx
        split at hs
        · rename_i hkk
          subst hkk
          split at hs
          · cases hs
          · rename_i hin
            have hq := im_go_some hs
            subst hq
            refine im_riast hexec hb hK hki hW hS hx (im_out_in hin) hd (fun H1 locs1 hW1 hS1 => ?_)
            have hk2 := kk _ _ _ _ rfl ls H1 locs1 hL rfl hW1 hS1
            rw [List.length_set, im_sz_set hx (by simp [im_sc])] at hk2
            exact hk2
        · cases hs
      · cases hs
    · cases hs
  | bastore =>
    simp only [im_step, im_asti] at hs
    split at hs
    · split at hs
      · rename_i hx
        split at hs
        · rename_i hkk
          subst hkk
          split at hs
          · cases hs
          · rename_i hin
            have hq := im_go_some hs
            subst hq
            refine im_rbast hexec hb hK hki hW hS hx (im_out_in hin) hd (fun H1 locs1 hW1 hS1 => ?_)
            have hk2 := kk _ _ _ _ rfl ls H1 locs1 hL rfl hW1 hS1
            rw [List.length_set, im_sz_set hx (by simp [im_sc])] at hk2
            exact hk2
        · cases hs
      · cases hs
    · cases hs
  | lastore =>
    simp only [im_step, im_astl] at hs
    split at hs
    · split at hs
      · rename_i hx
        split at hs
        · rename_i hkk
          subst hkk
          split at hs
          · cases hs
          · rename_i hin
            have hq := im_go_some hs
            subst hq
            refine im_rlast hexec hb hK hki hW hS hx (im_out_in hin) hd (fun H1 locs1 hW1 hS1 => ?_)
            have hk2 := kk _ _ _ _ rfl ls H1 locs1 hL rfl hW1 hS1
            rw [List.length_set, im_sz_set hx (by simp [im_sc])] at hk2
            exact hk2
        · cases hs
      · cases hs
    · cases hs
  | aastore =>
    simp only [im_step, im_astr] at hs
    split at hs
    · split at hs
      · rename_i hx hv
        split at hs
        · rename_i hkk
          obtain ⟨rfl, rfl⟩ := hkk
          split at hs
          · cases hs
          · rename_i hin
            obtain ⟨C, Tt, N, hc, hkj⟩ := ho
            have hq := im_go_some hs
            subst hq
            refine im_raast hexec hb hK hki hc hkj hW hS hx hv (im_out_in hin) hd (fun H1 locs1 hW1 hS1 => ?_)
            have hk2 := kk _ _ _ _ rfl ls H1 locs1 hL rfl hW1 hS1
            rw [List.length_set, im_sz_set hx (by simp [im_sc])] at hk2
            exact hk2
        · cases hs
      · cases hs
    · cases hs
  | arraylength =>
    simp only [im_step, im_alen] at hs
    obtain ⟨ty, hty⟩ := ho
    split at hs
    · split at hs
      · rename_i hx
        split at hs
        · rename_i hkk
          subst hkk
          exact va_alen hexec hb hK.2 (im_P1 (hW.2 _ _ hx trivial)) 0 _ rfl (hki _ ty hty) rfl hd (kk _ _ _ _ (im_go_some hs) ls H locs hL rfl hW hS)
        · cases hs
      · cases hs
    · obtain ⟨z, h1, h2⟩ := Option.bind_eq_some_iff.mp hs
      obtain ⟨hX, hbB⟩ := hsc z h1
      exact va_slen hexec hb hX (Nat.lt_of_lt_of_le hbB hB) (Nat.not_le.mpr hbB) hS hd (kk _ _ _ _ (im_go_some h2) ls H locs hL rfl hW hS)
    · cases hs
  | new idx =>
    obtain ⟨C, Tt, N, hc, hl1, hl2, hl3⟩ := ho
    have hq := im_go_some hs
    subst hq
    have hlen := (hcl _ _ _ _ hc).2.1
    have hsz : im_sz (h ++ [.inr (a1, (T.1 a1).map defaultValue)]) = im_sz h + N := by rw [im_sz_push]; simp [im_sc, hlen]
    have hln : (h ++ [(.inr (a1, (T.1 a1).map defaultValue) : im_C)]).length = h.length + 1 := by simp
    refine im_rnew hexec hb hown hK hcl hc hl1 hl2 hl3 hW hB hS ?_ ?_ hd (fun H1 hW1 hS1 => ?_)
    · have := hcap
      simp only [im_hp, hln] at this
      omega
    · have := hcap2
      simp only [im_hp, hsz] at this
      omega
    · have hk2 := kk _ _ _ _ rfl ls H1 locs hL rfl hW1 hS1
      rw [hln, hsz] at hk2
      rw [show h.length - n0 + 1 = h.length + 1 - n0 by omega, show im_sz h - s0 + N = im_sz h + N - s0 by omega]
      exact hk2
  | newarray t =>
    obtain ⟨hk3, hk, hl⟩ := ho
    simp only [im_step] at hs
    have hk3 : a1 < 3 := hk3
    have hk : im_kty cl a1 = some (newarray.typeOf t) := hk
    have hty : im_nty a1 = newarray.typeOf t := by
      rcases (show a1 = 0 ∨ a1 = 1 ∨ a1 = 2 by omega) with rfl | rfl | rfl <;> exact Option.some.inj hk
    rw [hty] at hs
    unfold im_newa at hs
    split at hs
    · split at hs
      · cases hs
      · rename_i hn
        split at hs
        · cases hs
        · rename_i hby
          obtain ⟨x, h1, h2⟩ := Option.bind_eq_some_iff.mp hs
          have hq := im_go_some h2
          subst hq
          have hx1 := (im_zero_cell h1 B 0).2
          have hln : (h ++ [(.inl (a1, x) : im_C)]).length = h.length + 1 := by simp
          have hsz : im_sz (h ++ [(.inl (a1, x) : im_C)]) = im_sz h + x.1 := by rw [im_sz_push]; rfl
          rw [hx1] at hsz
          refine im_rnewa hexec hb hK hki hk hk3 hl hW hS h1 hn hby ?_ ?_ hd (fun H1 hW1 hS1 => ?_)
          · have := hcap
            simp only [im_hp, hln] at this
            omega
          · have := hcap2
            simp only [im_hp, hsz] at this
            omega
          · have hk2 := kk _ _ _ _ rfl ls H1 locs hL rfl hW1 hS1
            rw [hln, hsz] at hk2
            rw [show h.length - n0 + 1 = h.length + 1 - n0 by omega, show im_sz h - s0 + _ = im_sz h + _ - s0 from (Nat.sub_add_comm hs0).symm]
            exact hk2
    · cases hs
  | anewarray idx =>
    obtain ⟨C, Tt, N, hc, hl1, hl2, hkj⟩ := ho
    simp only [im_step] at hs
    unfold im_newr at hs
    split at hs
    · split at hs
      · cases hs
      · rename_i hn
        split at hs
        · cases hs
        · rename_i n r hby
          have hq := im_go_some hs
          subst hq
          have hln : (h ++ [(.inl (3 + a1, n.toNatClampNeg, .inr (.inr (.inr (.inr (fun _ => none))))) : im_C)]).length = h.length + 1 := by simp
          have hsz : im_sz (h ++ [(.inl (3 + a1, n.toNatClampNeg, .inr (.inr (.inr (.inr (fun _ => none))))) : im_C)]) = im_sz h + n.toNatClampNeg := by rw [im_sz_push]; rfl
          refine im_rnewr hexec hb hown hK hki hc hl1 hl2 hkj hW hS hn hby ?_ ?_ hd (fun H1 hW1 hS1 => ?_)
          · have := hcap
            simp only [im_hp, hln] at this
            omega
          · have := hcap2
            simp only [im_hp, hsz] at this
            omega
          · have hk2 := kk _ _ _ _ rfl ls H1 locs hL rfl hW1 hS1
            rw [hln, hsz] at hk2
            rw [show h.length - n0 + 1 = h.length + 1 - n0 by omega, show im_sz h - s0 + _ = im_sz h + _ - s0 from (Nat.sub_add_comm hs0).symm]
            exact hk2
    · cases hs
  | invokevirtual idx =>
    simp only [im_step] at hs
    split at hs
    · rename_i hr
      obtain ⟨o, h1, h2⟩ := im_rcv_some hr
      obtain ⟨fs, h3⟩ := h2 _ rfl
      refine hinv rfl hs (fun hn h0 => ?_)
      obtain ⟨us, hus⟩ := im_take_rcv hn h0 h1
      exact ⟨o, fs, us, hus, h3⟩
    · cases hs
  | invokespecial idx =>
    simp only [im_step] at hs
    split at hs
    · rename_i hr
      obtain ⟨o, h1, h2⟩ := im_rcv_some hr
      refine hinv rfl hs (fun hn h0 => ?_)
      obtain ⟨us, hus⟩ := im_take_rcv hn h0 h1
      exact ⟨o, us, hus⟩
    · cases hs
  | invokestatic idx => exact hinv rfl hs (fun _ => trivial)
  | ireturn =>
    simp only [im_step, im_ret] at hs
    split at hs
    · split at hs
      · split at hs
        · rename_i hf
          cases hs
          exact kr _ rfl (Or.inl ⟨_, _, rfl, rfl, hf, hd⟩)
        · cases hs
      · cases hs
    · cases hs
  | areturn =>
    simp only [im_step] at hs
    split at hs
    · split at hs
      · rename_i hf
        cases hs
        exact kr _ rfl (Or.inr (Or.inl ⟨_, rfl, hf.1, hf.2, hd⟩))
      · cases hs
    · cases hs
  | return_ =>
    simp only [im_step] at hs
    split at hs
    · split at hs
      · rename_i hf
        cases hs
        exact kr _ rfl (Or.inr (Or.inr ⟨rfl, Option.isNone_iff_eq_none.mp hf, hd⟩))
      · cases hs
    · cases hs
  | _ => cases hs
end IMU
