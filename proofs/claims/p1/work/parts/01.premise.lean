/-- what the printed witness lacks: a start that meets the Statement's premises has the class of rows of StackTraceElement in its table of classes -/
theorem zz_needs_class {args : Array Value} {s : State} (h : (Jvm.Cond.and given_1 narrow_1).before args s = true) : s.vm.findClass "[Ljava/lang/StackTraceElement;" ≠ none := by
  have hs := flat_of_before _ h
  have hc : (Cond.not (Cond.castable "[Ljava/lang/StackTraceElement;" "java/lang/String")).before args s = true := hs _ (by decide +kernel)
  intro hn
  simp [Cond.before, Cond.holds, Cond.value, hn] at hc
