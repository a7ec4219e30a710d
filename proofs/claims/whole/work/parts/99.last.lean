theorem zz_last_0 : (1 : Nat) = 1 := rfl
theorem zz_exA : ((vx_atS RX8 114 "java/lang/IllegalArgumentException" ["java/lang/RuntimeException", "java/lang/Exception"]).filter (fun w => !goodWord w)) = [] := by decide +kernel
theorem zz_exB : ∀ w ∈ Cond.classLink RX8 110 "java/lang/IllegalArgumentException" :: Cond.initialized "java/lang/IllegalArgumentException" :: vx_atS RX8 114 "java/lang/IllegalArgumentException" ["java/lang/RuntimeException", "java/lang/Exception"], vx_ot w = true := by decide +kernel
#check @J_xcallSi
