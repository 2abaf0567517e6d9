theorem cls_in : ∀ q ∈ tb_cl, (u_ws q.1 q.2.1 q.2.2).all (fun w => decide (w ∈ lw_tbl) && im_gw w) = true := by decide +kernel
theorem ins_in : ∀ q ∈ tb_cl, Jvm.Cond.instantiable q.1 q.2.2 ∈ lw_tbl := by decide +kernel
