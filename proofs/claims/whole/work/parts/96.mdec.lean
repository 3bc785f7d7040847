/-! the reference reads decimals: all of it -/
theorem DST.uniq {l : List Int} {e r J J' : Nat} (h : DST l e r J) (g : DST l e r J') : J = J' := by
  rcases Nat.lt_trichotomy J J' with c | c | c
  · exact absurd (g.1 J c) h.2
  · exact c
  · exact absurd (h.1 J' c) g.2
/-- what both say of a number at its end -/
def OKN (l : List Int) (e p K : Nat) (yy : Int) (q' : Nat) : Prop := 0 < ND l p K ∧ yy = 1 ∧ q' = e
theorem f210_123_ok {s : zS} {l : List Int} {p e K Z Y : Nat} {sm ex : Int} (hs : sm = 0 ∨ sm = 1) (hM : MT s l p e) (hp : p ≤ e) (hS : STP 10 l e p K) (he1 : -100000 ≤ ex) (he2 : ex ≤ 100000) (h40 : s.1 24 40 = zi 1) (h6 : D6 32 s) (hZ : 400000 ≤ Z) (hY : 400000 ≤ Y) :
    ∃ (v : Nat) (s' : zS), f210_123 (zi sm) (zi (pp l p K)) (zi ((p + K : Nat) : Int)) (zi ex) s = some (zl v, s') ∧ fr [32, 33] [] s s' ∧ D6 32 s' ∧ RN Z (ND10 Z Y (VV 10 l p K) (ex - NB l p K)) (10 ^ Y) sm v := by
  have hK := hS.le hp
  have g5 := hM.2.2.2.2.1
  have g6 := hM.2.2.2.2.2
  have hnd := ND_le l p K
  have hnb := NB_le l p K
  have h154 : ∀ y0 : Int, y0 = (ND l p K : Int) - NB l p K → ∃ (v : Nat) (s' : zS), f210_154 (zi sm) (zi ((p + K : Nat) : Int)) (zi ex) (zi y0) s = some (zl v, s') ∧ fr [32, 33] [] s s' ∧ D6 32 s' ∧ RN Z (ND10 Z Y (VV 10 l p K) (ex - NB l p K)) (10 ^ Y) sm v := by
    intro y0 hy
    obtain ⟨s1, a1, a2, a3⟩ := f230_eq (aa := 32) (.inl rfl) h6
    have hM1 : MT s1 l p e := hM.mv a3 rfl rfl rfl rfl
    obtain ⟨v, s', b1, b2, b3, b4⟩ := f210_185_loop (Z := Z) (Y := Y) (x8 := zi (y0 - 1 + ex)) hs hS hK he1 he2 hZ hY (at' := fun k => (ND l p K : Int) - NB l p K - 1 + ex - ND l p k) (fun k => rfl) rfl K 0 zF s1 0 (by omega) (by unfold zF; omega) hM1 (.inl ⟨rfl, rfl, a2⟩)
    refine ⟨v, s', ?_, a3.trans b2, b3, b4⟩
    unfold f210_154
    have e0 : (ND l p K : Int) - NB l p K - 1 + ex - (ND l p 0 : Nat) = y0 - 1 + ex := by
      have : ND l p 0 = 0 := rfl
      omega
    rw [a1, zb0_mk, hM1.2.2.1, zi_sub, zi_add]
    rw [e0] at b1
    exact b1
  unfold f210_123
  rw [h40, if_pos (zne (by omega)), hM.2.2.1, zi_sub, zi_sub]
  by_cases c : PT l p K = 0
  · have e1 : pp l p K = -1 := if_pos c
    obtain ⟨z1, z2⟩ := PT_zero K c
    rw [e1, if_neg (znge (by omega))]
    exact h154 _ (by omega)
  · have e1 : pp l p K = ((p + (ND l p K - NB l p K) : Nat) : Int) := if_neg c
    rw [e1, if_pos (zge (by omega))]
    exact h154 _ (by omega)
theorem f210_123_no {s : zS} (h40 : s.1 24 40 = zi 0) (x1 x4 x5 x6 : Int32) : f210_123 x1 x4 x5 x6 s = some (zl 0, s) := by
  unfold f210_123
  rw [h40, if_neg (not_not_intro rfl)]
theorem f210_eq {s : zS} {l : List Int} {p e K Z Y : Nat} {sm yy ex : Int} {q' : Nat} (hs : sm = 0 ∨ sm = 1) (hM : MT s l p e) (hp : p ≤ e) (hS : STP 10 l e p K) (hX : EXPO l e 0 (p + K) yy ex q') (h40 : s.1 24 40 = zi 1) (h6 : D6 32 s) (hZ : 400000 ≤ Z) (hY : 400000 ≤ Y) :
    ∃ (v : Nat) (s' : zS), f210 (zi sm) s = some (zl v, s') ∧ fr [32, 33] [40] s s' ∧ D6 32 s' ∧ ((OKN l e p K yy q' ∧ s'.1 24 40 = zi 1 ∧ RN Z (ND10 Z Y (VV 10 l p K) (ex - NB l p K)) (10 ^ Y) sm v) ∨ (¬ OKN l e p K yy q' ∧ s'.1 24 40 = zi 0)) := by
  have hK := hS.le hp
  have g5 := hM.2.2.2.2.1
  have g6 := hM.2.2.2.2.2
  have hnd := ND_le l p K
  obtain ⟨r1, r2, r3⟩ := hX.rng hK
  have hr := ch_rng hM.2.1 e (p + K)
  have e10 : f210 (zi sm) s = f210_61 (zi sm) (zi ((p + K : Nat) : Int)) (zi (ND l p K : Nat)) (zi (pp l p K)) s := by
    unfold f210
    rw [hM.2.2.1]
    exact f210_10_loop hS hp K 0 zF s (by omega) (by unfold zF; omega) hM
  rw [e10]
  have fr40 : fr [32, 33] [40] s (setI s 24 40 (zi 0)) := fr.refl.sI (.inr ⟨rfl, rfl⟩)
  have d640 : D6 32 (setI s 24 40 (zi 0)) := h6
  -- refused
  have no : ∀ s1 : zS, fr [] [40] s s1 → s1.1 24 40 = zi 0 → ¬ OKN l e p K yy q' → ∀ x6, ∃ (v : Nat) (s' : zS), f210_123 (zi sm) (zi (pp l p K)) (zi ((p + K : Nat) : Int)) x6 s1 = some (zl v, s') ∧ fr [32, 33] [40] s s' ∧ D6 32 s' ∧ ((OKN l e p K yy q' ∧ s'.1 24 40 = zi 1 ∧ RN Z (ND10 Z Y (VV 10 l p K) (ex - NB l p K)) (10 ^ Y) sm v) ∨ (¬ OKN l e p K yy q' ∧ s'.1 24 40 = zi 0)) := by
    intro s1 hf h0 hno x6
    refine ⟨0, s1, f210_123_no h0 _ _ _ _, hf.up rfl rfl, ?_, .inr ⟨hno, h0⟩⟩
    unfold D6
    rw [hf.f rfl (by decide), hf.f (a := 32 + 1) rfl (by decide)]
    exact h6
  have yes : ∀ s1 : zS, fr [] [40] s s1 → s1.1 24 40 = zi 1 → OKN l e p K yy q' → ∃ (v : Nat) (s' : zS), f210_123 (zi sm) (zi (pp l p K)) (zi ((p + K : Nat) : Int)) (zi ex) s1 = some (zl v, s') ∧ fr [32, 33] [40] s s' ∧ D6 32 s' ∧ ((OKN l e p K yy q' ∧ s'.1 24 40 = zi 1 ∧ RN Z (ND10 Z Y (VV 10 l p K) (ex - NB l p K)) (10 ^ Y) sm v) ∨ (¬ OKN l e p K yy q' ∧ s'.1 24 40 = zi 0)) := by
    intro s1 hf h1 hok
    have d6 : D6 32 s1 := by
      unfold D6
      rw [hf.f rfl (by decide), hf.f (a := 32 + 1) rfl (by decide)]
      exact h6
    obtain ⟨v, s', a1, a2, a3, a4⟩ := f210_123_ok (Z := Z) (Y := Y) (ex := ex) hs (hM.mv hf rfl rfl rfl rfl) hp hS r2 r3 h1 d6 hZ hY
    exact ⟨v, s', a1, (hf.up rfl rfl).trans (a2.up rfl rfl), a3, .inl ⟨hok, (a2.1 24 40 rfl (fun _ => rfl)).trans h1, a4⟩⟩
  unfold f210_61
  by_cases c0 : ND l p K = 0
  · rw [c0, if_neg zi00]
    exact ⟨0, _, rfl, fr40, d640, .inr ⟨fun q => by have := q.1; omega, rfl⟩⟩
  · rw [if_pos (zne (by omega)), f205_eq hM (by omega), zb1_mk, f205_eq hM (by omega), zb1_mk]
    rcases hX with ⟨x1, J, x2, x3, x4, x5⟩ | ⟨x1, x2, x3, x4⟩
    · have hin : p + K < e := ch_in (l := l) (by unfold isE at x1; omega)
      obtain ⟨J', s1, a1, a2, a3, a4⟩ := f209_eq (q := p + K + 1) (by omega) hM
      obtain rfl := x2.uniq a2
      have e98 : f210_98 (zi sm) (zi ((p + K : Nat) : Int)) (zi (pp l p K)) (zi ((p + K : Nat) : Int)) s = f210_123 (zi sm) (zi (pp l p K)) (zi ((p + K : Nat) : Int)) (zi ex) s1 := by
        unfold f210_98
        have e1 : zi ((p + K : Nat) : Int) + zi 1 = zi ((p + K + 1 : Nat) : Int) := zi_add _ _
        rw [e1, a1, zb1_mk, x4]
      have fin : ∃ (v : Nat) (s' : zS), f210_98 (zi sm) (zi ((p + K : Nat) : Int)) (zi (pp l p K)) (zi ((p + K : Nat) : Int)) s = some (zl v, s') ∧ fr [32, 33] [40] s s' ∧ D6 32 s' ∧ ((OKN l e p K yy q' ∧ s'.1 24 40 = zi 1 ∧ RN Z (ND10 Z Y (VV 10 l p K) (ex - NB l p K)) (10 ^ Y) sm v) ∨ (¬ OKN l e p K yy q' ∧ s'.1 24 40 = zi 0)) := by
        rw [e98]
        by_cases w : J ≠ 0 ∧ sg l e (p + K + 1) + J = e
        · rw [if_pos w, h40] at a3
          exact yes s1 a4 a3 ⟨by omega, by rw [x5, if_neg w.1], by omega⟩
        · rw [if_neg w] at a3
          refine no s1 a4 a3 (fun g => w ⟨fun q => ?_, by have := g.2.2; omega⟩) _
          have := g.2.1
          rw [x5, if_pos q] at this
          omega
      by_cases c1 : ch l e (p + K) = 101
      · rw [if_pos (zeq c1)]
        exact fin
      · have c2 : ch l e (p + K) = 69 := by unfold isE at x1; omega
        rw [if_neg (zne (by omega)), if_neg (not_not_intro (zeq c2))]
        exact fin
    · have n1 : ch l e (p + K) ≠ 101 := fun q => x1 (.inl ⟨rfl, .inl q⟩)
      have n2 : ch l e (p + K) ≠ 69 := fun q => x1 (.inl ⟨rfl, .inr q⟩)
      rw [if_neg (zne (by omega)), if_pos (zne (by omega)), hM.2.2.2.1]
      by_cases w : p + K = e
      · rw [if_pos (zeq (by omega))]
        subst x3
        exact yes s fr.refl h40 ⟨by omega, by omega, by omega⟩
      · rw [if_neg (zne (by omega))]
        exact no (setI s 24 40 (zi 0)) (fr.refl.sI (.inr ⟨rfl, rfl⟩)) rfl (fun q => w (by have := q.2.2; omega)) _
