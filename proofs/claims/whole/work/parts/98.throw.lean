/-! ===== what is thrown: its words ===== -/
def nsE : String := "java/util/NoSuchElementException"
def nsN : List String := ["java/lang/RuntimeException", "java/lang/Exception"]
theorem vxa_1 : ∀ w ∈ (vx_at0 RX10 217 nsE nsN).filter goodWord, w ∈ lw_tb := fun w h => tb_in ((by decide +kernel : ∀ w ∈ (vx_at0 RX10 217 nsE nsN).filter goodWord, w ∈ lw_tbl) w h) (List.mem_filter.mp h).2
theorem vxa_3 : ∀ w ∈ Cond.classLink RX10 215 nsE :: Cond.initialized nsE :: vx_at0 RX10 217 nsE nsN, vx_ot w = true := by decide +kernel
/-- what else the throw needs; a call may turn these words to others, so they go along -/
def nsC : List Cond := [.castable nsE nsE, .declares ⟨"java/lang/RuntimeException", "<init>", "()V"⟩, .declares ⟨"java/lang/Exception", "<init>", "()V"⟩, .declares ⟨"java/lang/Throwable", "<init>", "()V"⟩]
theorem vxa_2 : ∀ w ∈ (vx_at0 RX10 217 nsE nsN).filter (fun w => !goodWord w), w ∈ nsC := by decide +kernel
theorem nsC_in : ∀ w ∈ nsC, w ∈ lw_tbl := by decide +kernel
