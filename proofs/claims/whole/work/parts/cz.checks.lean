theorem ck_456 : im_mchk lw_tbl tb_cl tb_mt me_456 hs_456 = true := by sorry
theorem tb_ok : ∀ z ∈ tb_mt, ∃ hs, im_mchk lw_tbl tb_cl tb_mt z.2 hs = true := by sorry
