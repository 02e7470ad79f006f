/-! more of the verifier's own kit (what came after part 02) -/
theorem mz01 {v : Int32} (h : v = 0 ∨ v = 1) : v &&& 1 = v ∧ fits .boolean (.int v) = true := by
  rcases h with h | h
  · subst h
    exact ⟨by decide, by decide⟩
  · subst h
    exact ⟨by decide, by decide⟩
