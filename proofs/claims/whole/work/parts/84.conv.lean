/-! every conversion writes alike -/
theorem convOK : ConvOK := by
  intro F W pr cv su k c m a n t hv hs han hn
  show CV F W pr cv su k c m a n t
  have hv' := hv
  obtain ⟨ha, hcv, hg, hf, hW1, hW2, hp1, hp2, hch⟩ := hv'
  by_cases k0 : k = 0
  · subst k0
    exact CV_nothing hcv hp1 hp2
  · rcases hg with h | h | h | ⟨h, h2, h3⟩ | ⟨h, h2, h3⟩ | ⟨h, h2⟩ | ⟨h, h2⟩
    · exact absurd h k0
    · subst h
      exact CV_b ha k0 hp1 hp2
    · subst h
      have hk0 := ha.1
      have hk9 := ha.2.1
      by_cases k1 : k = 1
      · subst k1
        exact CV_s1 ha hp1 hp2
      · by_cases k2 : k = 2
        · subst k2
          exact CV_s2 ha hp1 hp2
        · by_cases k6 : k ≤ 6
          · exact CV_s36 ha (by omega) hp1 hp2
          · by_cases k9 : k = 9
            · subst k9
              exact CV_s9 ha han hn hp1 hp2
            · exact CV_sr hv (by omega)
    · subst h
      exact CV_c hv ⟨h2, h3⟩
    · rcases h with h | h | h
      · subst h
        exact CV_d hv ⟨h2, h3⟩
      · subst h
        exact CV_o hv ⟨h2, h3⟩
      · subst h
        exact CV_x hv ⟨h2, h3⟩
    · rcases h with h | h | h | h
      · subst h
        exact CV_a hv h2
      · exact CV_efg hv h2 (.inl h)
      · exact CV_efg hv h2 (.inr (.inl h))
      · exact CV_efg hv h2 (.inr (.inr h))
    · subst h
      subst h2
      exact CV_t hv hs
