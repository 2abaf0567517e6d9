/-! THE LAW'S OWN METHODS (by program: wip/tools/gen.py) -/
def cd_oct : List (Nat × im_X) := [(0, .aload_n 2, 0, 0), (1, .iconst 0, 0, 0), (2, .aload_n 0, 0, 0), (3, .iload_n 1, 0, 0), (4, .invokevirtual 7, 456, 2), (7, .i2l, 0, 0), (8, .lastore, 0, 0), (9, .goto 6, 0, 0), (12, .astore_n 3, 0, 0), (13, .iconst 1, 0, 0), (14, .ireturn, 0, 0), (15, .iconst 0, 0, 0), (16, .ireturn, 0, 0)]
def hs_oct : List (Nat × List Nat) := [(4, [977, 980, 50, 978, 979])]
def me_oct : im_E := ((⟨"MapTextLaw", "octet", "(LMapText;I[J)I"⟩, method_3_code), cd_oct, 4, some .int)
def me_law : im_E := ((⟨"MapTextLaw", "law", "([I)Z"⟩, code), cd_law, 7, some .boolean)
def ix_o : Nat := 51
def hh_o : List (Nat × Nat × Nat × Nat) := [((0 : Nat), (9 : Nat), (12 : Nat), (13 : Nat))]
def ix_c : Nat := 7
def ct_o : Nat := 13
