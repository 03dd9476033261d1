/-! What the witness's invariant looks at -/
theorem invX_g {u v : uS} (h : ∀ c, c ∈ fWT → v.1 c = u.1 c) (h0 : v.1 231 0 = u.1 231 0) (h3 : v.1 271 73 = u.1 271 73) (h4 : v.1 271 74 = u.1 271 74) (h5 : v.1 271 75 = u.1 271 75) (hX : invX u) : invX v := by
  obtain ⟨h1, h2⟩ := hX
  refine ⟨by rw [h 333 (by decide)]; exact h1, ?_⟩
  rw [h0, h3]
  rcases h2 with z | ⟨z1, z2, M, L, H, s, b, hM, hS, hV, hO, hb, hk, h74, h75, hr, T, hT0, hT⟩
  · exact Or.inl z
  · have hW : WT M L H s T v := WT_g h ⟨hV, hO, hr, hT⟩
    exact Or.inr ⟨z1, z2, M, L, H, s, b, hM, hS, hW.1, hW.2.1, by rw [h 232 (by decide)]; exact hb, (hW.2.2.2 0 0 b hT0).1, by rw [h4]; exact h74, by rw [h5]; exact h75, hW.2.2.1, T, hT0, hW.2.2.2⟩
/-- out of a frame that keeps off them -/
theorem invX_fr {P : Nat → Int → Prop} {u v : uS} (hf : fr1 P u v) (hP : ∀ c, c ∈ fWT → ∀ j, ¬ P c j) (h0 : ¬ P 231 0) (h3 : ¬ P 271 73) (h4 : ¬ P 271 74) (h5 : ¬ P 271 75) (hX : invX u) : invX v := invX_g (fun c hc => funext (fun j => hf c j (hP c hc j))) (hf 231 0 h0) (hf 271 73 h3) (hf 271 74 h4) (hf 271 75 h5) hX
