/-! words, on -/
set_option maxRecDepth 100000 in
theorem k_co_yX5_replace : Cond.code yX5_replace cX5_replace 11 none ∈ W0 := z_in (i := 834) (by first | exact rfl | decide +kernel) (by decide +kernel)
