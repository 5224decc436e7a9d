section
/-! What the printed premise asks of a start's tables: the class of the array of stack trace elements is among them (REPORT.md, TRANSLATOR 2). -/
set_option maxRecDepth 100000 in
theorem nd_word : (Jvm.Cond.not (Jvm.Cond.castable "[Ljava/lang/StackTraceElement;" "java/lang/Integer")) ∈ flatC (Jvm.Cond.and given_1 narrow_1) := by decide +kernel
theorem nd_need (a : Array Value) (s : State) (h : (Jvm.Cond.and given_1 narrow_1).before a s = true) : ∃ k, s.vm.findClass "[Ljava/lang/StackTraceElement;" = some k := by
  have h1 := flat_of_before _ h _ nd_word
  cases hc : s.vm.findClass "[Ljava/lang/StackTraceElement;" with
  | some k => exact ⟨k, rfl⟩
  | none => simp [Cond.before, Cond.holds, Cond.value, hc] at h1
end
