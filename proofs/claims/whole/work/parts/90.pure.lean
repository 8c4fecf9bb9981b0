theorem pure_all : PureAll := by
  intro Ls xs hLs hx
  obtain ⟨⟨r, K, σ⟩, e, h1, h2, h3⟩ := law_start (Ls := Ls) (xs := xs) hLs hx
  dsimp only at h1 h2 h3
  subst h1
  exact ⟨K, σ, e, h2, h3⟩
