/-- the one piece of the library's far shelf that these rows lean on (85: gc_multi), named here first, so that every part is read over the whole library from the start -/
theorem wide_outer (c : ClassId) (N h0 : Nat) : Jvm.Free.Multi.outerC c N h0 0 = { cls := c, slots := Array.replicate N .null, vm := .none } := rfl
