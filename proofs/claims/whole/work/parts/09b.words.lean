theorem iae_k : Cond.classLink "EvenFinders" 376 "java/lang/IllegalArgumentException" ∈ gt := mg (k := 2) (i := 223) (by decide +kernel) rfl
theorem iae_i : Cond.initialized "java/lang/IllegalArgumentException" ∈ gt := mg (k := 1) (i := 18) (by decide +kernel) rfl
set_option maxRecDepth 100000 in
theorem iae_all : (vx_atS "EvenFinders" 380 "java/lang/IllegalArgumentException" ["java/lang/RuntimeException", "java/lang/Exception"]).all (fun w => decide (w ∈ gt) || decide (w ∈ xw)) = true := by decide +kernel
theorem iae_at : ∀ w ∈ vx_atS "EvenFinders" 380 "java/lang/IllegalArgumentException" ["java/lang/RuntimeException", "java/lang/Exception"], w ∈ gt ∨ w ∈ xw := by
  intro w hw
  have h := List.all_eq_true.mp iae_all w hw
  simp only [Bool.or_eq_true, decide_eq_true_eq] at h
  exact h
theorem iae_g : ∀ w ∈ Cond.classLink "EvenFinders" 376 "java/lang/IllegalArgumentException" :: Cond.initialized "java/lang/IllegalArgumentException" :: vx_atS "EvenFinders" 380 "java/lang/IllegalArgumentException" ["java/lang/RuntimeException", "java/lang/Exception"], vx_ot w = true := by
  have h : (Cond.classLink "EvenFinders" 376 "java/lang/IllegalArgumentException" :: Cond.initialized "java/lang/IllegalArgumentException" :: vx_atS "EvenFinders" 380 "java/lang/IllegalArgumentException" ["java/lang/RuntimeException", "java/lang/Exception"]).all vx_ot = true := by decide +kernel
  exact fun w hw => List.all_eq_true.mp h w hw
theorem nse_k : Cond.classLink "EvenFinders" 383 "java/util/NoSuchElementException" ∈ gt := mg (k := 4) (i := 188) (by decide +kernel) rfl
theorem nse_i : Cond.initialized "java/util/NoSuchElementException" ∈ gt := mg (k := 1) (i := 25) (by decide +kernel) rfl
set_option maxRecDepth 100000 in
theorem nse_all : ((nsAll "EvenFinders" 387).filter vx_no).all (fun w => decide (w ∈ gt) || decide (w ∈ xw)) = true := by decide +kernel
theorem nse_at : ∀ w ∈ (nsAll "EvenFinders" 387).filter vx_no, w ∈ gt ∨ w ∈ xw := by
  intro w hw
  have h := List.all_eq_true.mp nse_all w hw
  simp only [Bool.or_eq_true, decide_eq_true_eq] at h
  exact h
theorem nse_g : ∀ w ∈ Cond.classLink "EvenFinders" 383 "java/util/NoSuchElementException" :: Cond.initialized "java/util/NoSuchElementException" :: (nsAll "EvenFinders" 387).filter vx_no, vx_ot w = true := by
  have h : (Cond.classLink "EvenFinders" 383 "java/util/NoSuchElementException" :: Cond.initialized "java/util/NoSuchElementException" :: (nsAll "EvenFinders" 387).filter vx_no).all vx_ot = true := by decide +kernel
  exact fun w hw => List.all_eq_true.mp h w hw
