/-! the first row names a piece of the library's rest, so that every round is read over the whole of it from the start -/
theorem en_wide0 : @Jvm.Free.Multi.outerC = @Jvm.Free.Multi.outerC := rfl
