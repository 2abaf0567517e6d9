set_option maxRecDepth 8000 in
theorem law_hd {L : Nat} {xs : Nat → Int32} {i : Nat} {x5 x6 : Option Value} {h : im_H} {Q : Option Value → im_H → Prop} (hL : L ≤ 2048) (hi : i ≤ L) (kx : L < i + 4 → Q (some (.int 1)) h) (kb : i + 4 ≤ L → gG (tb_F, some (L, xs)) gL (some .boolean) cd_law 32 [some (.retAddr 0), some (.ref 0), some (.ref 11), some (.ref 24), some (.int (nI i)), x5, x6] [] h Q) : gG (tb_F, some (L, xs)) gL (some .boolean) cd_law 23 [some (.retAddr 0), some (.ref 0), some (.ref 11), some (.ref 24), some (.int (nI i)), x5, x6] [] h Q := by
  refine gG.step (cd := cd_law) rfl (fun _ => rfl) ?_
  refine gG.step rfl (fun _ => rfl) ?_
  refine gG.step (st' := [.int (nI L), .int (nI i)]) (h' := h) rfl (fun _ => rfl) ?_
  iterate 2 refine gG.step rfl (fun _ => rfl) ?_
  show gG _ _ _ _ 29 _ [Value.int (nI L - 4), Value.int (nI i)] h Q
  by_cases h4 : 4 ≤ L
  · rw [show nI L - 4 = nI (L - 4) from pk_sub (b := 4) h4]
    refine gG.icmp (tgt := 570) rfl rfl (fun c => ?_) (fun c => ?_)
    · have hlt := (c_gt (by omega) (by omega)).mp c
      refine gG.step rfl (fun _ => rfl) ?_
      exact gG.done rfl (fun _ => rfl) (kx (by omega))
    · have hng : ¬ L - 4 < i := fun y => c ((c_gt (by omega) (by omega)).mpr y)
      exact kb (by omega)
  · refine gG.icmp (tgt := 570) rfl rfl (fun _ => ?_) (fun c => absurd (law_gt ⟨i, by omega⟩ ⟨L, by omega⟩) c)
    refine gG.step rfl (fun _ => rfl) ?_
    exact gG.done rfl (fun _ => rfl) (kx (by omega))
def lawQ (r : Option Value) (h : im_H) : Prop := r = some (.int 1) ∧ h.length ≤ 5000 ∧ im_sz h ≤ 200000
theorem LJ.q {V : Prop} {c : Nat} {h : im_H} (hc : c ≤ 512) (hJ : LJ V c h) : lawQ (some (.int 1)) h := by
  obtain ⟨A, s, t, -, -, -, -, -, h1, h2⟩ := hJ
  unfold lZ at h2
  exact ⟨rfl, by omega, by omega⟩
theorem law_lp {L : Nat} {xs : Nat → Int32} (hL : L ≤ 2048) : ∀ (r c : Nat) (x5 x6 : Option Value) (h : im_H), L < 4 * c + 4 * r + 4 → 4 * c ≤ L → LJ False c h → gG (tb_F, some (L, xs)) gL (some .boolean) cd_law 23 [some (.retAddr 0), some (.ref 0), some (.ref 11), some (.ref 24), some (.int (nI (4 * c))), x5, x6] [] h lawQ
  | 0, c, x5, x6, h, h1, h2, hJ => law_hd hL h2 (fun _ => hJ.q (by omega)) (fun h4 => absurd h4 (by omega))
  | r + 1, c, x5, x6, h, h1, h2, hJ => by
    refine law_hd hL h2 (fun _ => hJ.q (by omega)) (fun h4 => ?_)
    refine law_it (V := False) hL h4 hJ (fun h' x5 x6 hJ' => ?_)
    rw [show 4 * c + 4 = 4 * (c + 1) by omega]
    exact law_lp hL r (c + 1) x5 x6 h' (by omega) (by omega) hJ'
def lwN : Nat := 2048
set_option maxRecDepth 8000 in
theorem law_run {L : Nat} {xs : Nat → Int32} (hL : L ≤ lwN) : gG (tb_F, some (L, xs)) gL (some .boolean) cd_law 0 [some (.retAddr 0), none, none, none, none, none, none] [] [] lawQ := by
  unfold lwN at hL
  refine gG.step (cd := cd_law) (pc' := 3) (L' := [some (.retAddr 0), none, none, none, none, none, none]) (st' := [.ref 0]) (h' := [.inr (7, (tb_F 7).map defaultValue)]) rfl (fun _ => rfl) ?_
  refine gG.step rfl (fun _ => rfl) ?_
  refine gG.inv rfl (fun _ => rfl) (Nat.le_of_ble_eq_true rfl) rfl rfl (Nat.le_of_ble_eq_true rfl) ?_
  refine gL.of (by decide) (c_448 4 _ ?_)
  show gG _ _ _ _ 7 _ [Value.ref 0] cNew lawQ
  refine gG.step (L' := [some (.retAddr 0), some (.ref 0), none, none, none, none, none]) rfl (fun _ => rfl) ?_
  refine gG.step (pc' := 11) (st' := [.ref 11]) (h' := cNew ++ [.inr (8, (tb_F 8).map defaultValue)]) rfl (fun _ => rfl) ?_
  refine gG.step rfl (fun _ => rfl) ?_
  refine gG.inv rfl (fun _ => rfl) (Nat.le_of_ble_eq_true rfl) rfl rfl (Nat.le_of_ble_eq_true rfl) ?_
  refine gL.of (by decide) (m_512 6 cNew _ ?_)
  show gG _ _ _ _ 15 _ [Value.ref 11] (cNew ++ mAll 11) lawQ
  refine gG.step (L' := [some (.retAddr 0), some (.ref 0), some (.ref 11), none, none, none, none]) rfl (fun _ => rfl) ?_
  refine gG.step rfl (fun _ => rfl) ?_
  refine gG.step (pc' := 19) (st' := [.ref 24]) (h' := lNew) rfl (fun _ => rfl) ?_
  refine gG.step (L' := [some (.retAddr 0), some (.ref 0), some (.ref 11), some (.ref 24), none, none, none]) rfl (fun _ => rfl) ?_
  refine gG.step rfl (fun _ => rfl) ?_
  refine gG.step (L' := [some (.retAddr 0), some (.ref 0), some (.ref 11), some (.ref 24), some (.int (nI 0)), none, none]) rfl (fun _ => rfl) ?_
  exact law_lp hL 512 0 none none lNew (by omega) (Nat.zero_le _) LJ_new.wk
