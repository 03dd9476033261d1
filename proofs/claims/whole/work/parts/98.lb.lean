/-! What is known of the empty grammar at first -/
theorem inv0L : invL u0 := by
  refine ⟨0, 0, u0_near rfl, u0_near rfl, fun x hx => ?_, ⟨fun x h0 h1 => ?_, fun x h0 h1 => ?_, fun r h0 h1 => ?_⟩, ⟨⟨?_, fun r h0 h1 => ?_⟩, fun w _ x h0 h1 => ?_⟩⟩
  · have h1 := hx.1
    have h2 := hx.2
    omega
  · omega
  · omega
  · omega
  · intro x
    intros
    omega
  · omega
  · omega
