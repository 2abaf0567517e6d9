/-! FROM THE LAW'S ENTRY TO ITS END -/
theorem ocF_up {n : Nat} {vs : List Value} {h : im_H} {r : Option Value} {h' : im_H} (hs : ocF n vs h = some (r, h')) : im_Up h h' := by
  unfold ocF at hs
  split at hs
  · obtain ⟨len, -, hs⟩ := Option.bind_eq_some_iff.mp hs
    split at hs
    · exact im_run_up (im_exec_up im_nat_up 8 n) _ _ _ _ _ _ _ hs
    · cases hs
      exact ⟨by rw [List.length_append]; exact Nat.le_add_right _ _, by rw [im_sz_push]; exact Nat.le_add_right _ _⟩
  · cases hs
theorem gL_up (n : Nat) : im_Cup (gL n) := by
  intro y vs h r h' hs
  unfold gL at hs
  split at hs
  · exact ocF_up hs
  · exact im_exec_up im_nat_up 8 n y vs h r h' hs
theorem TBl_any {s : State} {args : Array Value} (hts : ∀ w ∈ lw_tbl, w.before args s = true) : ∀ w ∈ TBl, ∀ a : Array Value, w.before a s = true := by
  intro w hw a
  obtain ⟨h0, h1⟩ := List.mem_filter.mp hw
  have h2 := hts w h0
  unfold im_gw at h1
  rw [Bool.or_eq_true] at h1
  rcases h1 with h1 | h1
  · exact word_at (State.WarmedH.refl s) (good_of_word h1) h2
  · split at h1
    · exact va_Nw.use rfl (va_Nw.of rfl h2)
    · exact va_Nw.use rfl (va_Nw.of rfl h2)
    · exact va_AO.use (va_AO.of h2)
    · cases h1
theorem whole_start {p : Program} {e : Env} {s : State} {m : MethodId} {below : List Frame} {meth : Method} {c : Code} (l : Launch) (hst : l.stackTraces = false) {b L : Nat} {xs : Nat → Int32} (hL : L ≤ lwN) (C0 : lw_At p s m meth c b L xs) : W p l e room_1 s m #[Value.ref b] below meth c s.heap [] 0 0 (lw_Z below #[Value.ref b] s) (entryFrame m ([Value.ref b] : List Value).toArray 7) := by
  obtain ⟨hexec, hb, hr, hml, hown, hts, hXs, hbl, hlocks, hgv⟩ := C0
  obtain ⟨D, tys, hK0, hki⟩ := st_K hts
  have hK : im_K TBl D tb_cl tys s := ⟨TBl_any hts, hK0⟩
  have hsys : im_Sys TBl tb_cl (im_tI tb_mt) (im_tM tb_mt) := im_sys tb_ok
  have hX : xK s := xK.of hts
  have haw : ∀ {j : Nat} {w : Jvm.Cond}, aWs[j]? = some w → w.before #[Value.ref b] s = true := fun hj => hts _ (aW_in _ (List.mem_of_getElem? hj))
  have hfl := flat_of_before _ hgv
  have hZ : xZ s.heap.size s := ⟨vx_Zqof (haw (j := 6) rfl) (haw (j := 8) rfl) (hfl (.isRef (.static Bundle.tN "UNASSIGNED_STACK" Bundle.steD)) (by decide +kernel)) (fun a ha h => absurd h (by omega)), vx_Zqof (haw (j := 7) rfl) (haw (j := 8) rfl) (hfl (.isRef (.static Bundle.tN "SUPPRESSED_SENTINEL" Bundle.listD)) (by decide +kernel)) (fun a ha h => absurd h (by omega))⟩
  have hCx : im_Cx p s m meth c TBl D tb_cl tys s.heap.size b (tb_F, some (L, xs)) code "MapTextLaw" meth.name := ⟨hexec, hb, hown, rfl, hK, cls_ok, hki, Nat.le_refl _, fun q hq => by cases hq; exact ⟨hXs, hbl⟩⟩
  obtain ⟨r, h', ⟨hr1, hc, hz⟩, n0, hrun⟩ := law_run (xs := xs) hL
  subst hr1
  have hrun := hrun n0 n0 (Nat.le_refl _) (Nat.le_refl _)
  have h456 : im_Has TBl tb_cl (im_tI tb_mt) (im_tM tb_mt) me_456 := im_chk1 ck_456
  have hoct : im_Has TBl tb_cl (im_tI tb_mt) (im_tM tb_mt) me_oct := im_chk1 ck_oct
  rw [lg_entry_eq]
  have key := im_sRun (l := l) (e := e) (R := room_1) (args := #[Value.ref b]) (below := below) (Q := lw_Z below #[Value.ref b] s) (gL_up n0) hCx (cd := cd_law) (fun pc x hx => ⟨(law_has pc x hx).1, (law_has pc x hx).2.1 _⟩) ?_ (n0 := 0) (s0 := 0) (r := some (.int 1)) (h' := h') (ret := some .boolean) ?_ ?_ ?_ n0 0 [some (.retAddr 0), none, none, none, none, none, none] [] [] hrun _ s.heap [] (im_entry (vs := [.retAddr 0]) (n := 7) (Nat.le_of_ble_eq_true rfl)) (by rw [hml]; rfl) ⟨rfl, fun k x hx => (nomatch hx)⟩ va_S.rf (Nat.zero_le _) (Nat.zero_le _)
  · exact key
  · intro pc x hx hinv
    rcases (law_has pc x hx).2.2 hinv with hx1 | ⟨q', hq', hio⟩
    · subst hx1
      exact oct_site hst hsys h456 hoct hCx rfl hX hZ (Nat.le_of_ble_eq_true rfl) (Nat.le_of_ble_eq_true rfl) (n := n0) (fun vs h => by unfold gL; rw [if_pos rfl]) (law_has pc _ hx).1
    · have hne : ¬ x.2.1 = 1924 := by
        intro y
        rw [y] at hq'
        have : im_tM tb_mt 1924 = none := rfl
        rw [this] at hq'
        cases hq'
      refine im_site TBl_gw hCx (d := 7) (Nat.le_of_ble_eq_true rfl) (Nat.le_of_ble_eq_true rfl) (law_has pc x hx).1 hio (fun vs h r h' hcl => ?_)
      unfold gL at hcl
      rw [if_neg hne] at hcl
      exact im_sExec (T := (tb_F, none)) TBl_gw cls_ok hki rfl hsys n0 7 x.2.1 q' hq' vs h r h' hcl
  · rw [Nat.sub_zero]
    exact Nat.le_trans hc (Nat.le_of_ble_eq_true rfl)
  · rw [Nat.sub_zero]
    exact Nat.le_trans hz (Nat.le_of_ble_eq_true rfl)
  · intro pc ls H locs hW' hS hE
    rcases hE with ⟨v, ty, hv, hret, hf, hdg⟩ | ⟨v, hv, hf, hrt, hdg⟩ | ⟨hv, hret, hdg⟩
    · cases hv
      refine va_forget (fun q hq => hS.2.2 q hq) (W.widen ?_ ?_ (lw_ret hexec hb hr hlocks hdg))
      · rw [Nat.sub_zero]
        exact Nat.le_trans hc (Nat.le_of_ble_eq_true rfl)
      · rw [Nat.sub_zero]
        exact Nat.le_trans hz (Nat.le_of_ble_eq_true rfl)
    · cases hv
      cases hf
    · cases hv
