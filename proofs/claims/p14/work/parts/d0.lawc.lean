/-! THE LAW'S OWN TABLES HOLD -/
def im_npf (i : Instr) : Bool := match i with
  | .putfield _ => false
  | _ => true
def im_is19 (x : im_X) : Bool := match x.1 with
  | .invokestatic i => decide (i = ix_o ∧ x.2.1 = 1924 ∧ x.2.2 = 3)
  | _ => false
def im_lz (TT : List Jvm.Cond) (cl : List vw_C) (mt : List (Nat × im_E)) (e : im_E) (hs : List (Nat × List Nat)) (z : Nat × im_X) : Bool := im_dkb e.1.2 z.1 z.2 && (im_okb TT cl e.1.1.cls e.1.1.name z.2 ((hs.lookup z.1).getD []) && (im_npf z.2.1 && (!im_isinv z.2.1 || (im_is19 z.2 || (match mt.lookup z.2.2.1 with
  | some e' => im_inb TT cl e.1.1.cls z.2 e'.1 e'.2 ((hs.lookup z.1).getD [])
  | none => false)))))
def im_lq (k : Nat) : Bool := ((cd_law.drop (50 * k)).take 50).all (im_lz lw_tbl tb_cl tb_mt me_law hs_law)
theorem ck_oct : im_mchk lw_tbl tb_cl tb_mt me_oct hs_oct = true := by decide +kernel
theorem ck_l0 : im_lq 0 = true := by decide +kernel
theorem ck_l1 : im_lq 1 = true := by decide +kernel
theorem ck_l2 : im_lq 2 = true := by decide +kernel
theorem ck_l3 : im_lq 3 = true := by decide +kernel
theorem ck_l4 : im_lq 4 = true := by decide +kernel
theorem ck_l5 : im_lq 5 = true := by decide +kernel
theorem ck_l6 : im_lq 6 = true := by decide +kernel
theorem ck_l7 : im_lq 7 = true := by decide +kernel
theorem ck_l8 : im_lq 8 = true := by decide +kernel
