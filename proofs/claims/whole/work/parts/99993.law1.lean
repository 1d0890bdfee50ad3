section HNlaw
set_option maxRecDepth 100000 in
theorem hlk_13 : hl_13.all (hn_rok hm_Law_law) = true := by decide +kernel
set_option maxRecDepth 100000 in
theorem hlk_14 : hl_14.all (hn_rok hm_Law_law) = true := by decide +kernel
set_option maxRecDepth 100000 in
theorem hlk_15 : hl_15.all (hn_rok hm_Law_law) = true := by decide +kernel
set_option maxRecDepth 100000 in
theorem hlk_16 : hl_16.all (hn_rok hm_Law_law) = true := by decide +kernel
set_option maxRecDepth 100000 in
theorem hlk_17 : hl_17.all (hn_rok hm_Law_law) = true := by decide +kernel
set_option maxRecDepth 100000 in
theorem hlk_18 : hl_18.all (hn_rok hm_Law_law) = true := by decide +kernel
set_option maxRecDepth 100000 in
theorem hlk_19 : hl_19.all (hn_rok hm_Law_law) = true := by decide +kernel
set_option maxRecDepth 100000 in
theorem hlk_20 : hl_20.all (hn_rok hm_Law_law) = true := by decide +kernel
set_option maxRecDepth 100000 in
theorem hlk_21 : hl_21.all (hn_rok hm_Law_law) = true := by decide +kernel
set_option maxRecDepth 100000 in
theorem hlk_22 : hl_22.all (hn_rok hm_Law_law) = true := by decide +kernel
set_option maxRecDepth 100000 in
theorem hlk_23 : hl_23.all (hn_rok hm_Law_law) = true := by decide +kernel
set_option maxRecDepth 100000 in
theorem hlk_24 : hl_24.all (hn_rok hm_Law_law) = true := by decide +kernel
set_option maxRecDepth 100000 in
theorem hl_rows : hn_rows hm_Law_law = hl_0 ++ (hl_1 ++ (hl_2 ++ (hl_3 ++ (hl_4 ++ (hl_5 ++ (hl_6 ++ (hl_7 ++ (hl_8 ++ (hl_9 ++ (hl_10 ++ (hl_11 ++ (hl_12 ++ (hl_13 ++ (hl_14 ++ (hl_15 ++ (hl_16 ++ (hl_17 ++ (hl_18 ++ (hl_19 ++ (hl_20 ++ (hl_21 ++ (hl_22 ++ (hl_23 ++ (hl_24)))))))))))))))))))))))) := rfl
theorem hk_Law_law : hn_okr hm_Law_law = true := by
  unfold hn_okr
  rw [hl_rows]
  simp only [List.all_append, hlk_0, hlk_1, hlk_2, hlk_3, hlk_4, hlk_5, hlk_6, hlk_7, hlk_8, hlk_9, hlk_10, hlk_11, hlk_12, hlk_13, hlk_14, hlk_15, hlk_16, hlk_17, hlk_18, hlk_19, hlk_20, hlk_21, hlk_22, hlk_23, hlk_24, Bool.and_self]
end HNlaw
