/-! a name of the rest of the library, so that a round is read over the whole of it at once (see NOTES) -/
theorem use_rest : True := by
  have _h := @Jvm.Concat.sbZ_tabs
  exact True.intro
