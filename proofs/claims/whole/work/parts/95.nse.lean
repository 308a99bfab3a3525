/-! the words of a throw of NoSuchElementException -/
abbrev nse : String := "java/util/NoSuchElementException"
abbrev nsn : List String := ["java/lang/RuntimeException", "java/lang/Exception"]
def nseL : List Cond := xx_atS RX11 376 nse 13 prog_29_method_4_code nsn
theorem nse_ot : ∀ w ∈ Cond.classLink RX11 372 nse :: Cond.initialized nse :: nseL, vx_ot w = true := by decide +kernel
theorem nse_tb : ∀ w ∈ nseL.filter goodWord, w ∈ lw_tbl := by decide +kernel
theorem nse_bad : ∀ w ∈ nseL.filter (fun w => !goodWord w), (w.faceAtom && w.onTables) = true := by decide +kernel
theorem nse_badT : ∀ w ∈ nseL.filter (fun w => !goodWord w), w ∈ lw_tbl := by decide +kernel
theorem nse_cast : Cond.castable nse nse ∈ nseL.filter (fun w => !goodWord w) := by decide +kernel
