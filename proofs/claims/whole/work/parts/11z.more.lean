theorem zdec (v : Int32) : v + Int32.ofInt (-1) = v + (-1) := by
  have e : Int32.ofInt (-1) = (-1 : Int32) := by decide +kernel
  rw [e]
