/-! the law: its first block; by program (wip/whole/gennew.py) -/
theorem nl_La_7 : Cond.classLink "CoilWorksLaw" 7 "CoilWorks" ∈ cw_tb := cw_t1 18 (by decide +kernel) rfl
theorem ni_Co : Cond.instantiable "CoilWorks" 10 ∈ cw_tb := cw_t1 19 (by decide +kernel) rfl
theorem k_La_law_0 (g : cw_G) : cg_bk g y_La_law 0 [] (t_new 11 3) := cg_nil (tm_new (T := cw_F11) (by decide +kernel) rfl nl_La_7 ni_Co in_Co (by decide +kernel))
