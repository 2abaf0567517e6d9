section IMO
variable {p : Program} {l : Launch} {e : Env} {R : Room} {s : State} {m : MethodId} {args : Array Value} {below : List Frame} {meth : Method} {c : Code} {Q : State → Prop}
variable {D : va_G} {cl : List vw_C} {tys : List (ClassId × FieldType)} {B b : Nat} {cc : ByteArray} {own mn : String} {TB : List Jvm.Cond} {T : im_T} {pc : Nat}
theorem im_natSite {call : im_F} (hx0 : im_Cx p s m meth c TB D cl tys B b T cc own mn) {x : im_X} (hR1 : 2 ≤ R.frames) (hR2 : 96 ≤ R.locals) (hd : im_dk cc pc x) (hi : im_natok TB own x) (hcall0 : ∀ vs h, call x.2.1 vs h = im_nat x.2.1 vs h) : im_Site p l e R s m args below meth c Q D cl tys B b call x pc := by
  obtain ⟨hexec, hb, hown, hmn, hK, hcl, hki, hB, -⟩ := hx0
  have hts : ∀ w ∈ TB, w.before args s = true := fun w hw => hK.1 w hw args
  intro vs rest h r h' H locs cells slots ls hcall hlen hrc hrest hW hS hls hc1 hc2 kk
  rw [hcall0] at hcall
  obtain ⟨i, a1, a2⟩ := x
  cases i with
  | invokespecial idx =>
    obtain ⟨h1, h2, h3, h4, h5⟩ := hi
    have h1 : a1 = 1920 := h1
    subst h1
    simp only [im_nat, if_true] at hcall
    split at hcall
    · rename_i o
      cases hcall
      rw [Nat.sub_self, Nat.sub_self, Nat.add_zero, Nat.add_zero] at kk
      refine W.objInit hexec hb hown (hts _ h3) (hts _ h4) (hts _ h5) (a := B + o) (rest := rest) rfl hls rfl hd (by omega) (by show 2 * 0 + _ + 12 ≤ _; omega) ?_
      exact kk H locs hW hS
    · cases hcall
  | invokestatic idx =>
    rcases hi with ⟨h1, h2, h3, h4, h5, h6⟩ | ⟨h1, h2, h3, h4, h5, h6⟩ | ⟨h1, h2, h3, h4, h5, h6⟩
    · have h1 : a1 = 1921 := h1
      subst h1
      simp only [im_nat] at hcall
      rw [if_neg (by decide), if_pos trivial] at hcall
      split at hcall
      · rename_i a0 sp a dp n
        obtain ⟨n0, n1, f, g, g0, g1, k1, k2, k3, k4, k5, k6, rfl, rfl⟩ := im_ncopy_some hcall
        rw [List.length_set, im_sz_set g1 (by simp [im_sc]), Nat.sub_self, Nat.sub_self, Nat.add_zero, Nat.add_zero] at kk
        exact im_rcopy (rest := rest) hexec hb hls.symm hown (hts _ h3) (hts _ h4) (hts _ h5) (hts _ h6) hK hki hW hS g0 g1 k1 k2 k3 k4 k5 k6 (by omega) (by show _ + (7 + 11) ≤ _; omega) hd kk
      · cases hcall
    · have h1 : a1 = 1922 := h1
      subst h1
      simp only [im_nat] at hcall
      rw [if_neg (by decide), if_neg (by decide), if_pos trivial] at hcall
      split at hcall
      · rename_i x z
        cases hcall
        rw [Nat.sub_self, Nat.add_zero] at hc1
        rw [Nat.sub_self, Nat.add_zero] at hc2
        rw [Nat.sub_self, Nat.sub_self, Nat.add_zero, Nat.add_zero] at kk
        exact va_mmin (rest := rest) hexec hb hls.symm hown (hts _ h3) (hts _ h4) (hts _ h5) (hts _ h6) (by omega) (by omega) hc1 hc2 hd (kk H locs hW hS)
      · cases hcall
    · have h1 : a1 = 1923 := h1
      subst h1
      simp only [im_nat] at hcall
      rw [if_neg (by decide), if_neg (by decide), if_neg (by decide), if_pos trivial] at hcall
      split at hcall
      · rename_i x
        cases hcall
        rw [Nat.sub_self, Nat.add_zero] at hc1
        rw [Nat.sub_self, Nat.add_zero] at hc2
        rw [Nat.sub_self, Nat.sub_self, Nat.add_zero, Nat.add_zero] at kk
        exact va_mabs_long (rest := rest) hexec hb hls.symm hown (hts _ h3) (hts _ h4) (hts _ h5) (hts _ h6) (by omega) (by omega) hc1 hc2 hd (kk H locs hW hS)
      · cases hcall
  | _ => cases hi
/-- the methods, as the tables have them -/
def im_Sys (TB : List Jvm.Cond) (cl : List vw_C) (I : Nat → MethodName × ByteArray) (M : Nat → Option im_M) : Prop := ∀ (y : Nat) (q : im_M), M y = some q → plainName (I y).1.cls = true ∧ ∀ (pc : Nat) (x : im_X), im_f q.1 pc = some x → im_dk (I y).2 pc x ∧ im_ok TB cl (I y).1.cls (I y).1.name x ∧
  (im_isinv x.1 = true → (∃ q', M x.2.1 = some q' ∧ im_inok TB cl (I y).1.cls x (I x.2.1) q') ∨ (M x.2.1 = none ∧ im_natok TB (I y).1.cls x))
theorem im_sExec {I : Nat → MethodName × ByteArray} {M : Nat → Option im_M} (hg : ∀ w ∈ TB, im_gw w = true) (hcl : im_cls TB T.1 cl) (hki : im_kinds cl tys) (hT : T.2 = none) (hsys : im_Sys TB cl I M) (n : Nat) :
    ∀ (d y : Nat) (q : im_M), M y = some q → ∀ (vs : List Value) (h : im_H) (r : Option Value) (h' : im_H), im_exec T M im_nat (d + 1) n y vs h = some (r, h') → im_Mt l TB D cl tys B b (I y) q d vs h r h' := by
  intro d
  induction d with
  | zero =>
    intro y q hq vs h r h' hs
    rw [im_exec, hq] at hs
    dsimp only at hs
    split at hs
    · rename_i hsl
      refine im_sMet (im_exec_up im_nat_up 0 n) (hsys y q hq).1 hg hcl hki hT (fun pc x hx => ⟨((hsys y q hq).2 pc x hx).1, ((hsys y q hq).2 pc x hx).2.1⟩) (n := n) (fun p e R s m args below meth c Q hCx hR1 hR2 pc x hx hinv => ?_) hsl hs
      intro vs rest h r h' H locs cells slots ls hcall
      cases hcall
    · cases hs
  | succ d ih =>
    intro y q hq vs h r h' hs
    rw [im_exec, hq] at hs
    dsimp only at hs
    split at hs
    · rename_i hsl
      refine im_sMet (im_exec_up im_nat_up (d + 1) n) (hsys y q hq).1 hg hcl hki hT (fun pc x hx => ⟨((hsys y q hq).2 pc x hx).1, ((hsys y q hq).2 pc x hx).2.1⟩) (n := n) (fun p e R s m args below meth c Q hCx hR1 hR2 pc x hx hinv => ?_) hsl hs
      obtain ⟨hdk, -, hin⟩ := (hsys y q hq).2 pc x hx
      rcases hin hinv with ⟨q', hq', hio⟩ | ⟨hn, hno⟩
      · exact im_site hg hCx (Nat.le_of_eq hR1.symm) (Nat.le_of_eq hR2.symm) hdk hio (fun vs h r h' hc => ih x.2.1 q' hq' vs h r h' hc)
      · refine im_natSite hCx (by omega) (by omega) hdk hno (fun vs h => ?_)
        rw [im_exec, hn]
    · cases hs
end IMO
