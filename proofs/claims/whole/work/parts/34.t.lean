theorem tt1 : True := by
  have := @Jvm.Stand.Stand.multianewarray2F
  trivial
theorem tt2 : True := by
  have := @Jvm.Free.Multi.fill_facts
  trivial
theorem tt3 (w : Cond) (h : w = Cond.arrayOver (.array .int)) : goodWord w = true := by subst h; rfl
