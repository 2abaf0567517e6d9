/-! THE LAW, a call (by program: wip/tools/lawgen.py) -/
theorem gG.scr {L : Nat} {xs : Nat → Int32} {call : Nat → im_F} {ret : Option FieldType} {cd : List (Nat × im_X)} {pc : Nat} {Lc : im_L} {st : List Value} {h : im_H} {Q : Option Value → im_H → Prop} {i : Int32} {j a2 : Nat} (hf : im_f cd pc = some (.iaload, 0, a2)) (hi : i = nI j) (hj : j < L) (hL : L < 2 ^ 31) (kk : gG (tb_F, some (L, xs)) call ret cd (pc + 1) Lc (.int (xs j) :: st) h Q) : gG (tb_F, some (L, xs)) call ret cd pc Lc (.int i :: .retAddr 0 :: st) h Q := by
  subst hi
  have hc : (nI j).toNatClampNeg = j := nI_clamp (by omega)
  have ho : ¬ im_out (nI j) L = true := by
    unfold im_out
    rw [hc]
    intro y
    rcases of_decide_eq_true y with y | y
    · exact absurd (decide_eq_true y) (c_ltn (by omega))
    · omega
  refine gG.step hf (fun n => ?_) kk
  show im_aldi (tb_F, some (L, xs)) 0 (pc + 1) Lc (.int (nI j) :: .retAddr 0 :: st) h = _
  unfold im_aldi
  show (if (0 : Nat) = 0 then ((some (L, xs)).bind fun q => if im_out (nI j) q.1 = true then none else im_go (pc + 1) Lc (.int (q.2 (nI j).toNatClampNeg) :: st) h) else none) = _
  rw [if_pos rfl]
  show (if im_out (nI j) L = true then none else im_go (pc + 1) Lc (.int (xs (nI j).toNatClampNeg) :: st) h) = _
  rw [if_neg ho, hc]
  rfl
set_option maxRecDepth 8000 in
theorem law_it {V : Prop} {L : Nat} {xs : Nat → Int32} {c i : Nat} {x5 x6 : Option Value} {h : im_H} {Q : Option Value → im_H → Prop} (hL : L ≤ 2048) (hi : i + 4 ≤ L) (hJ : LJ V c h) (k : ∀ h' x5 x6, LJ False (c + 1) h' → gG (tb_F, some (L, xs)) gL (some .boolean) cd_law 23 [some (.retAddr 0), some (.ref 0), some (.ref 11), some (.ref 24), some (.int (nI (i + 4))), x5, x6] [] h' Q) : gG (tb_F, some (L, xs)) gL (some .boolean) cd_law 32 [some (.retAddr 0), some (.ref 0), some (.ref 11), some (.ref 24), some (.int (nI i)), x5, x6] [] h Q := by
  have nxt : ∀ h' x5 x6, LJ False (c + 1) h' → gG (tb_F, some (L, xs)) gL (some .boolean) cd_law 564 [some (.retAddr 0), some (.ref 0), some (.ref 11), some (.ref 24), some (.int (nI i)), x5, x6] [] h' Q := by
    intro h' x5 x6 hJ'
    refine gG.step (cd := cd_law) (L' := [some (.retAddr 0), some (.ref 0), some (.ref 11), some (.ref 24), some (.int (nI i + 4)), x5, x6]) rfl (fun _ => rfl) ?_
    refine gG.goto (tgt := 23) rfl rfl ?_
    rw [show nI i + 4 = nI (i + 4) from nI_add i 4]
    exact k h' x5 x6 hJ'
  iterate 2 refine gG.step (cd := cd_law) rfl (fun _ => rfl) ?_
  refine gG.scr (j := i) rfl rfl (by omega) (by omega) ?_
  iterate 2 refine gG.step rfl (fun _ => rfl) ?_
  show gG _ _ _ _ 39 _ [Value.int (xs i &&& 15)] h Q
  generalize xs i &&& 15 = v
  by_cases v0 : v = 0
  · subst v0
    refine gG.tsw (off := 65) (tgt := 104) rfl rfl rfl ?_
    refine gG.step rfl (fun _ => rfl) ?_
    refine gG.step rfl (fun _ => rfl) ?_
    refine gG.step rfl (fun _ => rfl) ?_
    refine gG.step rfl (fun _ => rfl) ?_
    refine gG.step rfl (fun _ => rfl) ?_
    refine gG.scr (j := i + 1) rfl (nI_add i 1) (by omega) (by omega) ?_
    obtain ⟨⟨fs, h0⟩, pp⟩ := PP_sign hJ (xs (i + 1))
    refine gG.vir rfl (h0) rfl rfl (Nat.le_of_ble_eq_true rfl) rfl rfl (Nat.le_of_ble_eq_true rfl) ?_
    refine gL.of (by decide) (gC.mono pp (fun r h1 hp => ?_))
    obtain ⟨⟨fs1, h11⟩, rfl, pq⟩ := hp
    show gG _ _ _ _ 114 _ [] h1 Q
    refine gG.step rfl (fun _ => rfl) ?_
    refine gG.step rfl (fun _ => rfl) ?_
    refine gG.step rfl (fun _ => rfl) ?_
    refine gG.step rfl (fun _ => rfl) ?_
    refine gG.step rfl (fun _ => rfl) ?_
    refine gG.scr (j := i + 1) rfl (nI_add i 1) (by omega) (by omega) ?_
    refine gG.vir rfl (h11) rfl rfl (Nat.le_of_ble_eq_true rfl) rfl rfl (Nat.le_of_ble_eq_true rfl) ?_
    refine gL.of (by decide) (gC.mono pq (fun r h2 hp => ?_))
    obtain ⟨rfl, hJ2⟩ := hp
    show gG _ _ _ _ 124 _ [] h2 Q
    refine gG.goto (tgt := 564) rfl rfl ?_
    exact nxt h2 _ _ hJ2
  by_cases v1 : v = 1
  · subst v1
    refine gG.tsw (off := 88) (tgt := 127) rfl rfl rfl ?_
    refine gG.step rfl (fun _ => rfl) ?_
    obtain ⟨⟨fs, h0⟩, pp⟩ := PP_read hJ
    refine gG.vir rfl (h0) rfl rfl (Nat.le_of_ble_eq_true rfl) rfl rfl (Nat.le_of_ble_eq_true rfl) ?_
    refine gL.of (by decide) (gC.mono pp (fun r h1 hp => ?_))
    obtain ⟨⟨fs1, h11⟩, x, rfl, pq⟩ := hp
    show gG _ _ _ _ 131 _ [Value.int x] h1 Q
    refine gG.step rfl (fun _ => rfl) ?_
    refine gG.step rfl (fun _ => rfl) ?_
    refine gG.vir rfl (h11) rfl rfl (Nat.le_of_ble_eq_true rfl) rfl rfl (Nat.le_of_ble_eq_true rfl) ?_
    refine gL.of (by decide) (gC.mono pq (fun r h2 hp => ?_))
    obtain ⟨x', rfl, he, hJ2⟩ := hp
    show gG _ _ _ _ 136 _ [Value.int x'] h2 Q
    refine gG.step rfl (fun _ => rfl) ?_
    refine gG.goto (tgt := 564) rfl rfl ?_
    exact nxt h2 _ _ hJ2
  by_cases v2 : v = 2
  · subst v2
    refine gG.tsw (off := 101) (tgt := 140) rfl rfl rfl ?_
    refine gG.step rfl (fun _ => rfl) ?_
    refine gG.step rfl (fun _ => rfl) ?_
    refine gG.step rfl (fun _ => rfl) ?_
    refine gG.step rfl (fun _ => rfl) ?_
    refine gG.step rfl (fun _ => rfl) ?_
    refine gG.scr (j := i + 1) rfl (nI_add i 1) (by omega) (by omega) ?_
    refine gG.step rfl (fun _ => rfl) ?_
    refine gG.step rfl (fun _ => rfl) ?_
    refine gG.step rfl (fun _ => rfl) ?_
    refine gG.step rfl (fun _ => rfl) ?_
    refine gG.scr (j := i + 2) rfl (nI_add i 2) (by omega) (by omega) ?_
    refine gG.step rfl (fun _ => rfl) ?_
    refine gG.step rfl (fun _ => rfl) ?_
    refine gG.step rfl (fun _ => rfl) ?_
    refine gG.step rfl (fun _ => rfl) ?_
    refine gG.scr (j := i + 3) rfl (nI_add i 3) (by omega) (by omega) ?_
    obtain ⟨⟨fs, h0⟩, pp⟩ := PP_field hJ (xs (i + 1)) (xs (i + 2)) (xs (i + 3))
    refine gG.vir rfl (h0) rfl rfl (Nat.le_of_ble_eq_true rfl) rfl rfl (Nat.le_of_ble_eq_true rfl) ?_
    refine gL.of (by decide) (gC.mono pp (fun r h1 hp => ?_))
    obtain ⟨⟨fs1, h11⟩, x, rfl, pq⟩ := hp
    show gG _ _ _ _ 162 _ [Value.int x] h1 Q
    refine gG.step rfl (fun _ => rfl) ?_
    refine gG.step rfl (fun _ => rfl) ?_
    refine gG.step rfl (fun _ => rfl) ?_
    refine gG.step rfl (fun _ => rfl) ?_
    refine gG.step rfl (fun _ => rfl) ?_
    refine gG.step rfl (fun _ => rfl) ?_
    refine gG.scr (j := i + 1) rfl (nI_add i 1) (by omega) (by omega) ?_
    refine gG.step rfl (fun _ => rfl) ?_
    refine gG.step rfl (fun _ => rfl) ?_
    refine gG.step rfl (fun _ => rfl) ?_
    refine gG.step rfl (fun _ => rfl) ?_
    refine gG.scr (j := i + 2) rfl (nI_add i 2) (by omega) (by omega) ?_
    refine gG.step rfl (fun _ => rfl) ?_
    refine gG.step rfl (fun _ => rfl) ?_
    refine gG.step rfl (fun _ => rfl) ?_
    refine gG.step rfl (fun _ => rfl) ?_
    refine gG.scr (j := i + 3) rfl (nI_add i 3) (by omega) (by omega) ?_
    refine gG.vir rfl (h11) rfl rfl (Nat.le_of_ble_eq_true rfl) rfl rfl (Nat.le_of_ble_eq_true rfl) ?_
    refine gL.of (by decide) (gC.mono pq (fun r h2 hp => ?_))
    obtain ⟨x', rfl, he, hJ2⟩ := hp
    show gG _ _ _ _ 185 _ [Value.int x'] h2 Q
    refine gG.step rfl (fun _ => rfl) ?_
    refine gG.goto (tgt := 564) rfl rfl ?_
    exact nxt h2 _ _ hJ2
  by_cases v3 : v = 3
  · subst v3
    refine gG.tsw (off := 150) (tgt := 189) rfl rfl rfl ?_
    refine gG.step rfl (fun _ => rfl) ?_
    refine gG.step rfl (fun _ => rfl) ?_
    refine gG.step rfl (fun _ => rfl) ?_
    refine gG.step rfl (fun _ => rfl) ?_
    refine gG.step rfl (fun _ => rfl) ?_
    refine gG.scr (j := i + 1) rfl (nI_add i 1) (by omega) (by omega) ?_
    refine gG.step rfl (fun _ => rfl) ?_
    refine gG.step rfl (fun _ => rfl) ?_
    refine gG.step rfl (fun _ => rfl) ?_
    refine gG.step rfl (fun _ => rfl) ?_
    refine gG.scr (j := i + 2) rfl (nI_add i 2) (by omega) (by omega) ?_
    obtain ⟨⟨fs, h0⟩, pp⟩ := PP_overlap hJ (xs (i + 1)) (xs (i + 2))
    refine gG.vir rfl (h0) rfl rfl (Nat.le_of_ble_eq_true rfl) rfl rfl (Nat.le_of_ble_eq_true rfl) ?_
    refine gL.of (by decide) (gC.mono pp (fun r h1 hp => ?_))
    obtain ⟨⟨fs1, h11⟩, x, rfl, pq⟩ := hp
    show gG _ _ _ _ 205 _ [Value.int x] h1 Q
    refine gG.step rfl (fun _ => rfl) ?_
    refine gG.step rfl (fun _ => rfl) ?_
    refine gG.step rfl (fun _ => rfl) ?_
    refine gG.step rfl (fun _ => rfl) ?_
    refine gG.step rfl (fun _ => rfl) ?_
    refine gG.step rfl (fun _ => rfl) ?_
    refine gG.scr (j := i + 1) rfl (nI_add i 1) (by omega) (by omega) ?_
    refine gG.step rfl (fun _ => rfl) ?_
    refine gG.step rfl (fun _ => rfl) ?_
    refine gG.step rfl (fun _ => rfl) ?_
    refine gG.step rfl (fun _ => rfl) ?_
    refine gG.scr (j := i + 2) rfl (nI_add i 2) (by omega) (by omega) ?_
    refine gG.vir rfl (h11) rfl rfl (Nat.le_of_ble_eq_true rfl) rfl rfl (Nat.le_of_ble_eq_true rfl) ?_
    refine gL.of (by decide) (gC.mono pq (fun r h2 hp => ?_))
    obtain ⟨x', rfl, he, hJ2⟩ := hp
    show gG _ _ _ _ 222 _ [Value.int x'] h2 Q
    refine gG.step rfl (fun _ => rfl) ?_
    refine gG.goto (tgt := 564) rfl rfl ?_
    exact nxt h2 _ _ hJ2
  by_cases v4 : v = 4
  · subst v4
    refine gG.tsw (off := 187) (tgt := 226) rfl rfl rfl ?_
    refine gG.step rfl (fun _ => rfl) ?_
    refine gG.step rfl (fun _ => rfl) ?_
    refine gG.step rfl (fun _ => rfl) ?_
    refine gG.step rfl (fun _ => rfl) ?_
    refine gG.step rfl (fun _ => rfl) ?_
    refine gG.scr (j := i + 1) rfl (nI_add i 1) (by omega) (by omega) ?_
    refine gG.step rfl (fun _ => rfl) ?_
    refine gG.step rfl (fun _ => rfl) ?_
    refine gG.step rfl (fun _ => rfl) ?_
    refine gG.step rfl (fun _ => rfl) ?_
    refine gG.scr (j := i + 2) rfl (nI_add i 2) (by omega) (by omega) ?_
    refine gG.step rfl (fun _ => rfl) ?_
    refine gG.step rfl (fun _ => rfl) ?_
    refine gG.step rfl (fun _ => rfl) ?_
    refine gG.step rfl (fun _ => rfl) ?_
    refine gG.scr (j := i + 3) rfl (nI_add i 3) (by omega) (by omega) ?_
    obtain ⟨⟨fs, h0⟩, pp⟩ := PP_layout hJ (xs (i + 1)) (xs (i + 2)) (xs (i + 3))
    refine gG.vir rfl (h0) rfl rfl (Nat.le_of_ble_eq_true rfl) rfl rfl (Nat.le_of_ble_eq_true rfl) ?_
    refine gL.of (by decide) (gC.mono pp (fun r h1 hp => ?_))
    obtain ⟨⟨fs1, h11⟩, x, rfl, pq⟩ := hp
    show gG _ _ _ _ 248 _ [Value.int x] h1 Q
    refine gG.step rfl (fun _ => rfl) ?_
    refine gG.step rfl (fun _ => rfl) ?_
    refine gG.step rfl (fun _ => rfl) ?_
    refine gG.step rfl (fun _ => rfl) ?_
    refine gG.step rfl (fun _ => rfl) ?_
    refine gG.step rfl (fun _ => rfl) ?_
    refine gG.scr (j := i + 1) rfl (nI_add i 1) (by omega) (by omega) ?_
    refine gG.step rfl (fun _ => rfl) ?_
    refine gG.step rfl (fun _ => rfl) ?_
    refine gG.step rfl (fun _ => rfl) ?_
    refine gG.step rfl (fun _ => rfl) ?_
    refine gG.scr (j := i + 2) rfl (nI_add i 2) (by omega) (by omega) ?_
    refine gG.step rfl (fun _ => rfl) ?_
    refine gG.step rfl (fun _ => rfl) ?_
    refine gG.step rfl (fun _ => rfl) ?_
    refine gG.step rfl (fun _ => rfl) ?_
    refine gG.scr (j := i + 3) rfl (nI_add i 3) (by omega) (by omega) ?_
    refine gG.vir rfl (h11) rfl rfl (Nat.le_of_ble_eq_true rfl) rfl rfl (Nat.le_of_ble_eq_true rfl) ?_
    refine gL.of (by decide) (gC.mono pq (fun r h2 hp => ?_))
    obtain ⟨x', rfl, he, hJ2⟩ := hp
    show gG _ _ _ _ 271 _ [Value.int x'] h2 Q
    refine gG.step rfl (fun _ => rfl) ?_
    refine gG.goto (tgt := 564) rfl rfl ?_
    exact nxt h2 _ _ hJ2
  by_cases v5 : v = 5
  · subst v5
    refine gG.tsw (off := 236) (tgt := 275) rfl rfl rfl ?_
    refine gG.step rfl (fun _ => rfl) ?_
    refine gG.step rfl (fun _ => rfl) ?_
    refine gG.step rfl (fun _ => rfl) ?_
    refine gG.step rfl (fun _ => rfl) ?_
    refine gG.step rfl (fun _ => rfl) ?_
    refine gG.scr (j := i + 1) rfl (nI_add i 1) (by omega) (by omega) ?_
    refine gG.step rfl (fun _ => rfl) ?_
    refine gG.step rfl (fun _ => rfl) ?_
    refine gG.step rfl (fun _ => rfl) ?_
    refine gG.step rfl (fun _ => rfl) ?_
    refine gG.scr (j := i + 2) rfl (nI_add i 2) (by omega) (by omega) ?_
    refine gG.step rfl (fun _ => rfl) ?_
    refine gG.step rfl (fun _ => rfl) ?_
    refine gG.step rfl (fun _ => rfl) ?_
    refine gG.step rfl (fun _ => rfl) ?_
    refine gG.scr (j := i + 3) rfl (nI_add i 3) (by omega) (by omega) ?_
    obtain ⟨⟨fs, h0⟩, pp⟩ := PP_screen hJ (xs (i + 1)) (xs (i + 2)) (xs (i + 3))
    refine gG.vir rfl (h0) rfl rfl (Nat.le_of_ble_eq_true rfl) rfl rfl (Nat.le_of_ble_eq_true rfl) ?_
    refine gL.of (by decide) (gC.mono pp (fun r h1 hp => ?_))
    obtain ⟨⟨fs1, h11⟩, x, rfl, pq⟩ := hp
    show gG _ _ _ _ 297 _ [Value.int x] h1 Q
    refine gG.step rfl (fun _ => rfl) ?_
    refine gG.step rfl (fun _ => rfl) ?_
    refine gG.step rfl (fun _ => rfl) ?_
    refine gG.step rfl (fun _ => rfl) ?_
    refine gG.step rfl (fun _ => rfl) ?_
    refine gG.step rfl (fun _ => rfl) ?_
    refine gG.scr (j := i + 1) rfl (nI_add i 1) (by omega) (by omega) ?_
    refine gG.step rfl (fun _ => rfl) ?_
    refine gG.step rfl (fun _ => rfl) ?_
    refine gG.step rfl (fun _ => rfl) ?_
    refine gG.step rfl (fun _ => rfl) ?_
    refine gG.scr (j := i + 2) rfl (nI_add i 2) (by omega) (by omega) ?_
    refine gG.step rfl (fun _ => rfl) ?_
    refine gG.step rfl (fun _ => rfl) ?_
    refine gG.step rfl (fun _ => rfl) ?_
    refine gG.step rfl (fun _ => rfl) ?_
    refine gG.scr (j := i + 3) rfl (nI_add i 3) (by omega) (by omega) ?_
    refine gG.vir rfl (h11) rfl rfl (Nat.le_of_ble_eq_true rfl) rfl rfl (Nat.le_of_ble_eq_true rfl) ?_
    refine gL.of (by decide) (gC.mono pq (fun r h2 hp => ?_))
    obtain ⟨x', rfl, he, hJ2⟩ := hp
    show gG _ _ _ _ 320 _ [Value.int x'] h2 Q
    refine gG.step rfl (fun _ => rfl) ?_
    refine gG.goto (tgt := 564) rfl rfl ?_
    exact nxt h2 _ _ hJ2
  by_cases v6 : v = 6
  · subst v6
    refine gG.tsw (off := 285) (tgt := 324) rfl rfl rfl ?_
    refine gG.step rfl (fun _ => rfl) ?_
    refine gG.step rfl (fun _ => rfl) ?_
    refine gG.step rfl (fun _ => rfl) ?_
    refine gG.step rfl (fun _ => rfl) ?_
    refine gG.step rfl (fun _ => rfl) ?_
    refine gG.scr (j := i + 1) rfl (nI_add i 1) (by omega) (by omega) ?_
    refine gG.step rfl (fun _ => rfl) ?_
    refine gG.step rfl (fun _ => rfl) ?_
    refine gG.step rfl (fun _ => rfl) ?_
    refine gG.step rfl (fun _ => rfl) ?_
    refine gG.scr (j := i + 2) rfl (nI_add i 2) (by omega) (by omega) ?_
    refine gG.step rfl (fun _ => rfl) ?_
    refine gG.step rfl (fun _ => rfl) ?_
    refine gG.step rfl (fun _ => rfl) ?_
    refine gG.step rfl (fun _ => rfl) ?_
    refine gG.scr (j := i + 3) rfl (nI_add i 3) (by omega) (by omega) ?_
    obtain ⟨⟨fs, h0⟩, pp⟩ := PP_fill hJ (xs (i + 1)) (xs (i + 2)) (xs (i + 3))
    refine gG.vir rfl (h0) rfl rfl (Nat.le_of_ble_eq_true rfl) rfl rfl (Nat.le_of_ble_eq_true rfl) ?_
    refine gL.of (by decide) (gC.mono pp (fun r h1 hp => ?_))
    obtain ⟨⟨fs1, h11⟩, x, rfl, pq⟩ := hp
    show gG _ _ _ _ 346 _ [Value.int x] h1 Q
    refine gG.step rfl (fun _ => rfl) ?_
    refine gG.step rfl (fun _ => rfl) ?_
    refine gG.step rfl (fun _ => rfl) ?_
    refine gG.step rfl (fun _ => rfl) ?_
    refine gG.step rfl (fun _ => rfl) ?_
    refine gG.step rfl (fun _ => rfl) ?_
    refine gG.scr (j := i + 1) rfl (nI_add i 1) (by omega) (by omega) ?_
    refine gG.step rfl (fun _ => rfl) ?_
    refine gG.step rfl (fun _ => rfl) ?_
    refine gG.step rfl (fun _ => rfl) ?_
    refine gG.step rfl (fun _ => rfl) ?_
    refine gG.scr (j := i + 2) rfl (nI_add i 2) (by omega) (by omega) ?_
    refine gG.step rfl (fun _ => rfl) ?_
    refine gG.step rfl (fun _ => rfl) ?_
    refine gG.step rfl (fun _ => rfl) ?_
    refine gG.step rfl (fun _ => rfl) ?_
    refine gG.scr (j := i + 3) rfl (nI_add i 3) (by omega) (by omega) ?_
    refine gG.vir rfl (h11) rfl rfl (Nat.le_of_ble_eq_true rfl) rfl rfl (Nat.le_of_ble_eq_true rfl) ?_
    refine gL.of (by decide) (gC.mono pq (fun r h2 hp => ?_))
    obtain ⟨x', rfl, he, hJ2⟩ := hp
    show gG _ _ _ _ 369 _ [Value.int x'] h2 Q
    refine gG.step rfl (fun _ => rfl) ?_
    refine gG.goto (tgt := 564) rfl rfl ?_
    exact nxt h2 _ _ hJ2
  by_cases v7 : v = 7
  · subst v7
    refine gG.tsw (off := 334) (tgt := 373) rfl rfl rfl ?_
    refine gG.step rfl (fun _ => rfl) ?_
    refine gG.step rfl (fun _ => rfl) ?_
    refine gG.step rfl (fun _ => rfl) ?_
    refine gG.step rfl (fun _ => rfl) ?_
    refine gG.step rfl (fun _ => rfl) ?_
    refine gG.scr (j := i + 1) rfl (nI_add i 1) (by omega) (by omega) ?_
    refine gG.step rfl (fun _ => rfl) ?_
    refine gG.inv rfl (fun _ => rfl) (Nat.le_of_ble_eq_true rfl) rfl rfl (Nat.le_of_ble_eq_true rfl) ?_
    refine gC.mono (PO_of hJ (xs (i + 1))) (fun r h1 hp => ?_)
    obtain ⟨⟨fs1, h11⟩, kk, rfl, pq⟩ := hp
    show gG _ _ _ _ 384 _ [Value.int kk] h1 Q
    refine gG.step (L' := [some (.retAddr 0), some (.ref 0), some (.ref 11), some (.ref 24), some (.int (nI i)), some (.int kk), x6]) rfl (fun _ => rfl) ?_
    refine gG.step rfl (fun _ => rfl) ?_
    refine gG.step rfl (fun _ => rfl) ?_
    refine gG.step rfl (fun _ => rfl) ?_
    refine gG.step rfl (fun _ => rfl) ?_
    refine gG.step rfl (fun _ => rfl) ?_
    refine gG.scr (j := i + 1) rfl (nI_add i 1) (by omega) (by omega) ?_
    refine gG.vir rfl (h11) rfl rfl (Nat.le_of_ble_eq_true rfl) rfl rfl (Nat.le_of_ble_eq_true rfl) ?_
    refine gL.of (by decide) (gC.mono pq (fun r h2 hp => ?_))
    obtain ⟨b, rfl, hJ2, ⟨fs2, h11'⟩, hk0⟩ := hp
    show gG _ _ _ _ 396 _ [Value.int b] h2 Q
    refine gG.step (L' := [some (.retAddr 0), some (.ref 0), some (.ref 11), some (.ref 24), some (.int (nI i)), some (.int kk), some (.int b)]) rfl (fun _ => rfl) ?_
    refine gG.goto (tgt := 564) rfl rfl ?_
    exact nxt h2 _ _ hJ2
  by_cases v8 : v = 8
  · subst v8
    refine gG.tsw (off := 362) (tgt := 401) rfl rfl rfl ?_
    refine gG.step rfl (fun _ => rfl) ?_
    refine gG.step rfl (fun _ => rfl) ?_
    refine gG.step rfl (fun _ => rfl) ?_
    refine gG.step rfl (fun _ => rfl) ?_
    refine gG.step rfl (fun _ => rfl) ?_
    refine gG.scr (j := i + 1) rfl (nI_add i 1) (by omega) (by omega) ?_
    refine gG.step rfl (fun _ => rfl) ?_
    refine gG.step rfl (fun _ => rfl) ?_
    refine gG.step rfl (fun _ => rfl) ?_
    refine gG.step rfl (fun _ => rfl) ?_
    refine gG.scr (j := i + 2) rfl (nI_add i 2) (by omega) (by omega) ?_
    refine gG.step rfl (fun _ => rfl) ?_
    obtain ⟨⟨fs, h0⟩, pp⟩ := PP_take hJ (xs (i + 1)) (b := (xs (i + 2)).toInt8.toInt32) (by simp)
    refine gG.vir rfl (h0) rfl rfl (Nat.le_of_ble_eq_true rfl) rfl rfl (Nat.le_of_ble_eq_true rfl) ?_
    refine gL.of (by decide) (gC.mono pp (fun r h1 hp => ?_))
    obtain ⟨⟨fs1, h11⟩, x, rfl, pq⟩ := hp
    show gG _ _ _ _ 418 _ [Value.int x] h1 Q
    refine gG.step rfl (fun _ => rfl) ?_
    refine gG.step rfl (fun _ => rfl) ?_
    refine gG.step rfl (fun _ => rfl) ?_
    refine gG.step rfl (fun _ => rfl) ?_
    refine gG.step rfl (fun _ => rfl) ?_
    refine gG.step rfl (fun _ => rfl) ?_
    refine gG.scr (j := i + 1) rfl (nI_add i 1) (by omega) (by omega) ?_
    refine gG.step rfl (fun _ => rfl) ?_
    refine gG.step rfl (fun _ => rfl) ?_
    refine gG.step rfl (fun _ => rfl) ?_
    refine gG.step rfl (fun _ => rfl) ?_
    refine gG.scr (j := i + 2) rfl (nI_add i 2) (by omega) (by omega) ?_
    refine gG.step rfl (fun _ => rfl) ?_
    refine gG.vir rfl (h11) rfl rfl (Nat.le_of_ble_eq_true rfl) rfl rfl (Nat.le_of_ble_eq_true rfl) ?_
    refine gL.of (by decide) (gC.mono pq (fun r h2 hp => ?_))
    obtain ⟨x', rfl, he, hJ2⟩ := hp
    show gG _ _ _ _ 436 _ [Value.int x'] h2 Q
    refine gG.step rfl (fun _ => rfl) ?_
    refine gG.goto (tgt := 564) rfl rfl ?_
    exact nxt h2 _ _ hJ2
  by_cases v9 : v = 9
  · subst v9
    refine gG.tsw (off := 401) (tgt := 440) rfl rfl rfl ?_
    refine gG.step rfl (fun _ => rfl) ?_
    refine gG.step rfl (fun _ => rfl) ?_
    refine gG.step rfl (fun _ => rfl) ?_
    refine gG.step rfl (fun _ => rfl) ?_
    refine gG.step rfl (fun _ => rfl) ?_
    refine gG.scr (j := i + 1) rfl (nI_add i 1) (by omega) (by omega) ?_
    obtain ⟨⟨fs, h0⟩, pp⟩ := PP_differ hJ (xs (i + 1))
    refine gG.vir rfl (h0) rfl rfl (Nat.le_of_ble_eq_true rfl) rfl rfl (Nat.le_of_ble_eq_true rfl) ?_
    refine gL.of (by decide) (gC.mono pp (fun r h1 hp => ?_))
    obtain ⟨⟨fs1, h11⟩, x, rfl, pq⟩ := hp
    show gG _ _ _ _ 450 _ [Value.int x] h1 Q
    refine gG.step rfl (fun _ => rfl) ?_
    refine gG.step rfl (fun _ => rfl) ?_
    refine gG.step rfl (fun _ => rfl) ?_
    refine gG.step rfl (fun _ => rfl) ?_
    refine gG.step rfl (fun _ => rfl) ?_
    refine gG.step rfl (fun _ => rfl) ?_
    refine gG.scr (j := i + 1) rfl (nI_add i 1) (by omega) (by omega) ?_
    refine gG.vir rfl (h11) rfl rfl (Nat.le_of_ble_eq_true rfl) rfl rfl (Nat.le_of_ble_eq_true rfl) ?_
    refine gL.of (by decide) (gC.mono pq (fun r h2 hp => ?_))
    obtain ⟨x', rfl, he, hJ2⟩ := hp
    show gG _ _ _ _ 461 _ [Value.int x'] h2 Q
    refine gG.step rfl (fun _ => rfl) ?_
    refine gG.goto (tgt := 564) rfl rfl ?_
    exact nxt h2 _ _ hJ2
  by_cases v10 : v = 10
  · subst v10
    refine gG.tsw (off := 426) (tgt := 465) rfl rfl rfl ?_
    refine gG.step rfl (fun _ => rfl) ?_
    refine gG.step rfl (fun _ => rfl) ?_
    refine gG.step rfl (fun _ => rfl) ?_
    refine gG.step rfl (fun _ => rfl) ?_
    refine gG.step rfl (fun _ => rfl) ?_
    refine gG.scr (j := i + 1) rfl (nI_add i 1) (by omega) (by omega) ?_
    refine gG.step rfl (fun _ => rfl) ?_
    refine gG.step rfl (fun _ => rfl) ?_
    refine gG.step rfl (fun _ => rfl) ?_
    refine gG.step rfl (fun _ => rfl) ?_
    refine gG.scr (j := i + 2) rfl (nI_add i 2) (by omega) (by omega) ?_
    obtain ⟨⟨fs, h0⟩, pp⟩ := PP_program hJ (xs (i + 1)) (xs (i + 2))
    refine gG.vir rfl (h0) rfl rfl (Nat.le_of_ble_eq_true rfl) rfl rfl (Nat.le_of_ble_eq_true rfl) ?_
    refine gL.of (by decide) (gC.mono pp (fun r h1 hp => ?_))
    obtain ⟨⟨fs1, h11⟩, x, rfl, pq⟩ := hp
    show gG _ _ _ _ 481 _ [Value.int x] h1 Q
    refine gG.step rfl (fun _ => rfl) ?_
    refine gG.step rfl (fun _ => rfl) ?_
    refine gG.step rfl (fun _ => rfl) ?_
    refine gG.step rfl (fun _ => rfl) ?_
    refine gG.step rfl (fun _ => rfl) ?_
    refine gG.step rfl (fun _ => rfl) ?_
    refine gG.scr (j := i + 1) rfl (nI_add i 1) (by omega) (by omega) ?_
    refine gG.step rfl (fun _ => rfl) ?_
    refine gG.step rfl (fun _ => rfl) ?_
    refine gG.step rfl (fun _ => rfl) ?_
    refine gG.step rfl (fun _ => rfl) ?_
    refine gG.scr (j := i + 2) rfl (nI_add i 2) (by omega) (by omega) ?_
    refine gG.vir rfl (h11) rfl rfl (Nat.le_of_ble_eq_true rfl) rfl rfl (Nat.le_of_ble_eq_true rfl) ?_
    refine gL.of (by decide) (gC.mono pq (fun r h2 hp => ?_))
    obtain ⟨x', rfl, he, hJ2⟩ := hp
    show gG _ _ _ _ 498 _ [Value.int x'] h2 Q
    refine gG.step rfl (fun _ => rfl) ?_
    refine gG.goto (tgt := 564) rfl rfl ?_
    exact nxt h2 _ _ hJ2
  by_cases v11 : v = 11
  · subst v11
    refine gG.tsw (off := 463) (tgt := 502) rfl rfl rfl ?_
    refine gG.step rfl (fun _ => rfl) ?_
    refine gG.step rfl (fun _ => rfl) ?_
    refine gG.step rfl (fun _ => rfl) ?_
    refine gG.step rfl (fun _ => rfl) ?_
    refine gG.step rfl (fun _ => rfl) ?_
    refine gG.scr (j := i + 1) rfl (nI_add i 1) (by omega) (by omega) ?_
    refine gG.step rfl (fun _ => rfl) ?_
    refine gG.step rfl (fun _ => rfl) ?_
    refine gG.step rfl (fun _ => rfl) ?_
    refine gG.step rfl (fun _ => rfl) ?_
    refine gG.scr (j := i + 2) rfl (nI_add i 2) (by omega) (by omega) ?_
    obtain ⟨⟨fs, h0⟩, pp⟩ := PP_group hJ (xs (i + 1)) (xs (i + 2))
    refine gG.vir rfl (h0) rfl rfl (Nat.le_of_ble_eq_true rfl) rfl rfl (Nat.le_of_ble_eq_true rfl) ?_
    refine gL.of (by decide) (gC.mono pp (fun r h1 hp => ?_))
    obtain ⟨⟨fs1, h11⟩, x, rfl, pq⟩ := hp
    show gG _ _ _ _ 518 _ [Value.int x] h1 Q
    refine gG.step rfl (fun _ => rfl) ?_
    refine gG.step rfl (fun _ => rfl) ?_
    refine gG.step rfl (fun _ => rfl) ?_
    refine gG.step rfl (fun _ => rfl) ?_
    refine gG.step rfl (fun _ => rfl) ?_
    refine gG.step rfl (fun _ => rfl) ?_
    refine gG.scr (j := i + 1) rfl (nI_add i 1) (by omega) (by omega) ?_
    refine gG.step rfl (fun _ => rfl) ?_
    refine gG.step rfl (fun _ => rfl) ?_
    refine gG.step rfl (fun _ => rfl) ?_
    refine gG.step rfl (fun _ => rfl) ?_
    refine gG.scr (j := i + 2) rfl (nI_add i 2) (by omega) (by omega) ?_
    refine gG.vir rfl (h11) rfl rfl (Nat.le_of_ble_eq_true rfl) rfl rfl (Nat.le_of_ble_eq_true rfl) ?_
    refine gL.of (by decide) (gC.mono pq (fun r h2 hp => ?_))
    obtain ⟨x', rfl, he, hJ2⟩ := hp
    show gG _ _ _ _ 535 _ [Value.int x'] h2 Q
    refine gG.step rfl (fun _ => rfl) ?_
    refine gG.goto (tgt := 564) rfl rfl ?_
    exact nxt h2 _ _ hJ2
  by_cases v12 : v = 12
  · subst v12
    refine gG.tsw (off := 500) (tgt := 539) rfl rfl rfl ?_
    refine gG.step rfl (fun _ => rfl) ?_
    refine gG.step rfl (fun _ => rfl) ?_
    refine gG.step rfl (fun _ => rfl) ?_
    refine gG.step rfl (fun _ => rfl) ?_
    refine gG.step rfl (fun _ => rfl) ?_
    refine gG.scr (j := i + 1) rfl (nI_add i 1) (by omega) (by omega) ?_
    obtain ⟨⟨fs, h0⟩, pp⟩ := PP_told hJ (xs (i + 1))
    refine gG.vir rfl (h0) rfl rfl (Nat.le_of_ble_eq_true rfl) rfl rfl (Nat.le_of_ble_eq_true rfl) ?_
    refine gL.of (by decide) (gC.mono pp (fun r h1 hp => ?_))
    obtain ⟨⟨fs1, h11⟩, x, rfl, pq⟩ := hp
    show gG _ _ _ _ 549 _ [Value.int x] h1 Q
    refine gG.step rfl (fun _ => rfl) ?_
    refine gG.step rfl (fun _ => rfl) ?_
    refine gG.step rfl (fun _ => rfl) ?_
    refine gG.step rfl (fun _ => rfl) ?_
    refine gG.step rfl (fun _ => rfl) ?_
    refine gG.scr (j := i + 1) rfl (nI_add i 1) (by omega) (by omega) ?_
    refine gG.vir rfl (h11) rfl rfl (Nat.le_of_ble_eq_true rfl) rfl rfl (Nat.le_of_ble_eq_true rfl) ?_
    refine gL.of (by decide) (gC.mono pq (fun r h2 hp => ?_))
    obtain ⟨x', rfl, he, hJ2⟩ := hp
    show gG _ _ _ _ 559 _ [Value.int x', Value.int x] h2 Q
    refine gG.icmp (tgt := 564) rfl rfl (fun _ => ?_) (fun c => absurd (c_ee.mpr (he trivial)) c)
    exact nxt h2 _ _ hJ2
  have e0 : ¬ v.toInt = 0 := i_ne v0
  have e1 : ¬ v.toInt = 1 := i_ne v1
  have e2 : ¬ v.toInt = 2 := i_ne v2
  have e3 : ¬ v.toInt = 3 := i_ne v3
  have e4 : ¬ v.toInt = 4 := i_ne v4
  have e5 : ¬ v.toInt = 5 := i_ne v5
  have e6 : ¬ v.toInt = 6 := i_ne v6
  have e7 : ¬ v.toInt = 7 := i_ne v7
  have e8 : ¬ v.toInt = 8 := i_ne v8
  have e9 : ¬ v.toInt = 9 := i_ne v9
  have e10 : ¬ v.toInt = 10 := i_ne v10
  have e11 : ¬ v.toInt = 11 := i_ne v11
  have e12 : ¬ v.toInt = 12 := i_ne v12
  refine gG.tswOut (tgt := 564) rfl (by omega) rfl ?_
  exact nxt h _ _ (LJ_up hJ)
