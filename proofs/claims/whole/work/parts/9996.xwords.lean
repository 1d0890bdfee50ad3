section HNxw
abbrev nX : String := "java/util/NoSuchElementException"
abbrev nY : String := "java/lang/RuntimeException"
abbrev nL : List Cond := nx_at "HammockNet" 352 nX nY 13 prog_24_method_4_code ["java/lang/Exception"]
set_option maxRecDepth 100000 in
theorem nL_ot : ∀ w ∈ Cond.classLink "HammockNet" 348 nX :: Cond.initialized nX :: nL, vx_ot w = true := by decide +kernel
set_option maxRecDepth 100000 in
theorem nL_tbl : ∀ w ∈ Cond.classLink "HammockNet" 348 nX :: Cond.initialized nX :: nL, w ∈ lw_tbl := by decide +kernel
set_option maxRecDepth 100000 in
theorem nL_good : ∀ w ∈ Cond.classLink "HammockNet" 348 nX :: Cond.initialized nX :: nL, goodWord w = true := by decide +kernel
end HNxw
