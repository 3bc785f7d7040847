/-! LAYER 1: rules over the small machine -/
/-- one step of mex, unfolded -/
theorem mex_S {X : mX} {n d : Nat} {M : mM} {pc : Nat} {ls : mL} {st : List Value} {h : mH} {i : Instr} (hi : M.1 pc = some i) : mex X (n + 1) d M pc ls st h = (match mact X M i pc ls st h with
      | none => none
      | some (.inl (pc', ls', st', h')) => mex X n d M pc' ls' st' h'
      | some (.inr (.inr r)) => some r
      | some (.inr (.inl (k, as, rest))) => match d with
        | 0 => none
        | d' + 1 => match mtab k with
          | none => none
          | some M' => if ¬ (mla as).length ≤ M'.2.2.1 then none else match mex X n d' M' 0 (ment M'.2.2.1 as) [] h with
            | none => none
            | some (.inl v, h') => mex X n (d' + 1) M (pc + 3) ls (v.toList ++ rest) h'
            | some (.inr x, h') => match mcat M pc x M.2.2.2.2.2.2.2 with
              | none => none
              | some (t, j) => if j < ls.length then mex X n (d' + 1) M t (mls0 ls j) [] h' else none) := by
  rw [mex, hi]
  rfl
theorem mex_le {X : mX} : ∀ (n d : Nat) (M : mM) (pc : Nat) (ls : mL) (st : List Value) (h : mH) (r : mO × mH), mex X n d M pc ls st h = some r → ∀ n' d', n ≤ n' → d ≤ d' → mex X n' d' M pc ls st h = some r := by
  intro n
  induction n with
  | zero => intro d M pc ls st h r hex; cases hex
  | succ n ih =>
    intro d M pc ls st h r hex n' d' hn hd
    obtain ⟨k, rfl⟩ : ∃ k, n' = k + 1 := ⟨n' - 1, by omega⟩
    have hk : n ≤ k := by omega
    cases hi : M.1 pc with
    | none => rw [mex, hi] at hex; cases hex
    | some i =>
      rw [mex_S hi] at hex ⊢
      split at hex
      · cases hex
      · rename_i pc' ls' st' h' ha
        try rw [ha]
        exact ih _ _ _ _ _ _ _ hex _ _ hk hd
      · rename_i r' ha
        try rw [ha]
        exact hex
      · rename_i kk as rest ha
        try rw [ha]
        split at hex
        · cases hex
        · rename_i dd
          obtain ⟨d2, rfl⟩ : ∃ d2, d' = d2 + 1 := ⟨d' - 1, by omega⟩
          simp only
          split at hex
          · cases hex
          · rename_i M' hM'
            split at hex
            · cases hex
            · rename_i hl
              rw [if_neg hl]
              split at hex
              · cases hex
              · rename_i v h' hc
                rw [ih _ _ _ _ _ _ _ hc k d2 hk (by omega)]
                exact ih _ _ _ _ _ _ _ hex _ _ hk hd
              · rename_i x h' hc
                rw [ih _ _ _ _ _ _ _ hc k d2 hk (by omega)]
                simp only
                split at hex
                · cases hex
                · rename_i t j hcat
                  split at hex
                  · rename_i hj
                    rw [if_pos hj]
                    exact ih _ _ _ _ _ _ _ hex _ _ hk hd
                  · cases hex
/-- with depth D the small machine comes to r -/
def Ev (X : mX) (D : Nat) (M : mM) (pc : Nat) (ls : mL) (st : List Value) (h : mH) (r : mO × mH) : Prop := ∃ n, mex X n D M pc ls st h = some r
theorem Ev.deep {X : mX} {D D' : Nat} {M : mM} {pc : Nat} {ls : mL} {st : List Value} {h : mH} {r : mO × mH} (hd : D ≤ D') (k : Ev X D M pc ls st h r) : Ev X D' M pc ls st h r := by
  obtain ⟨n, hn⟩ := k
  exact ⟨n, mex_le _ _ _ _ _ _ _ _ hn n D' (Nat.le_refl _) hd⟩
theorem Ev.step {X : mX} {D : Nat} {M : mM} {pc : Nat} {ls : mL} {st : List Value} {h : mH} {r : mO × mH} {i : Instr} {pc' : Nat} {ls' : mL} {st' : List Value} {h' : mH} (hi : M.1 pc = some i) (ha : mact X M i pc ls st h = some (.inl (pc', ls', st', h'))) (k : Ev X D M pc' ls' st' h' r) : Ev X D M pc ls st h r := by
  obtain ⟨n, hn⟩ := k
  refine ⟨n + 1, ?_⟩
  rw [mex_S hi, ha]
  exact hn
theorem Ev.fin {X : mX} {D : Nat} {M : mM} {pc : Nat} {ls : mL} {st : List Value} {h : mH} {r : mO × mH} {i : Instr} (hi : M.1 pc = some i) (ha : mact X M i pc ls st h = some (.inr (.inr r))) : Ev X D M pc ls st h r := by
  refine ⟨1, ?_⟩
  rw [mex_S hi, ha]
theorem Ev.call {X : mX} {D : Nat} {M M' : mM} {pc : Nat} {ls : mL} {st : List Value} {h h' : mH} {r : mO × mH} {i : Instr} {kk : Nat} {as rest : List Value} {v : Option Value} (hi : M.1 pc = some i) (ha : mact X M i pc ls st h = some (.inr (.inl (kk, as, rest)))) (hM : mtab kk = some M') (hl : (mla as).length ≤ M'.2.2.1)
    (hc : Ev X D M' 0 (ment M'.2.2.1 as) [] h (.inl v, h')) (k : Ev X (D + 1) M (pc + 3) ls (v.toList ++ rest) h' r) : Ev X (D + 1) M pc ls st h r := by
  obtain ⟨n, hn⟩ := k
  obtain ⟨n2, hn2⟩ := hc
  refine ⟨n + n2 + 1, ?_⟩
  rw [mex_S hi, ha]
  simp only [hM]
  rw [if_neg (fun q => q hl), mex_le _ _ _ _ _ _ _ _ hn2 (n + n2) D (by omega) (Nat.le_refl _)]
  exact mex_le _ _ _ _ _ _ _ _ hn (n + n2) (D + 1) (by omega) (Nat.le_refl _)
theorem Ev.callT {X : mX} {D : Nat} {M M' : mM} {pc : Nat} {ls : mL} {st : List Value} {h h' : mH} {r : mO × mH} {i : Instr} {kk : Nat} {as rest : List Value} {x t j : Nat} (hi : M.1 pc = some i) (ha : mact X M i pc ls st h = some (.inr (.inl (kk, as, rest)))) (hM : mtab kk = some M') (hl : (mla as).length ≤ M'.2.2.1)
    (hc : Ev X D M' 0 (ment M'.2.2.1 as) [] h (.inr x, h')) (hcat : mcat M pc x M.2.2.2.2.2.2.2 = some (t, j)) (hj : j < ls.length) (k : Ev X (D + 1) M t (mls0 ls j) [] h' r) : Ev X (D + 1) M pc ls st h r := by
  obtain ⟨n, hn⟩ := k
  obtain ⟨n2, hn2⟩ := hc
  refine ⟨n + n2 + 1, ?_⟩
  rw [mex_S hi, ha]
  simp only [hM]
  rw [if_neg (fun q => q hl), mex_le _ _ _ _ _ _ _ _ hn2 (n + n2) D (by omega) (Nat.le_refl _)]
  simp only [hcat]
  rw [if_pos hj]
  exact mex_le _ _ _ _ _ _ _ _ hn (n + n2) (D + 1) (by omega) (Nat.le_refl _)
/-- n plain steps at once -/
def mrun (X : mX) (M : mM) : Nat → mS → Option mS
  | 0, σ => some σ
  | n + 1, σ => match M.1 σ.1 with
    | none => none
    | some i => match mact X M i σ.1 σ.2.1 σ.2.2.1 σ.2.2.2 with
      | some (.inl σ') => mrun X M n σ'
      | _ => none
theorem Ev.run {X : mX} {D : Nat} {M : mM} {r : mO × mH} : ∀ (n : Nat) {pc : Nat} {ls : mL} {st : List Value} {h : mH} {pc' : Nat} {ls' : mL} {st' : List Value} {h' : mH}, mrun X M n (pc, ls, st, h) = some (pc', ls', st', h') → Ev X D M pc' ls' st' h' r → Ev X D M pc ls st h r := by
  intro n
  induction n with
  | zero => intro pc ls st h pc' ls' st' h' hr k; cases hr; exact k
  | succ n ih =>
    intro pc ls st h pc' ls' st' h' hr k
    simp only [mrun] at hr
    split at hr
    · cases hr
    · rename_i i hi
      split at hr
      · rename_i σ' ha
        exact Ev.step hi ha (ih hr k)
      · cases hr
theorem mGoal_of_Ev (hev : ∀ (L : Nat) (xs : Nat → Int32), L ≤ 2560 → ∃ (h : mH), Ev (L, xs) 1000 mm256 0 mls [] mh0 (.inl (some (.int 1)), h)) : mGoal := by
  intro L xs hL
  obtain ⟨h, n, hn⟩ := hev L xs hL
  exact ⟨n, 1000, h, Nat.le_refl _, hn⟩
