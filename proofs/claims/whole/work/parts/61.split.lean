/-! reals taken apart -/
def rF (fb U : Nat) : Nat := U % 2 ^ fb
def rB (fb eb U : Nat) : Nat := U / 2 ^ fb % 2 ^ eb
def rS (fb eb U : Nat) : Nat := U / 2 ^ (fb + eb) % 2
def rM (fb eb U : Nat) : Nat := if rB fb eb U = 0 then rF fb U else rF fb U + 2 ^ fb
def rE (fb eb U : Nat) : Int := if rB fb eb U = 0 then 1 else rB fb eb U
def nanB (fb eb U : Nat) : Prop := rB fb eb U = 2 ^ eb - 1 ∧ ¬ rF fb U = 0
def infB (fb eb U : Nat) : Prop := rB fb eb U = 2 ^ eb - 1 ∧ rF fb U = 0
/-- of doubles and of floats -/
def kindR (fb eb : Nat) (lo : Int) (U : Nat) : Prop := (fb = 52 ∧ eb = 11 ∧ lo = -1074 ∧ U < 18446744073709551616) ∨ (fb = 23 ∧ eb = 8 ∧ lo = -149 ∧ U < 4294967296)
/-- what the class keeps of a real -/
def RW (s : zS) (fb eb : Nat) (lo : Int) (U : Nat) : Prop := s.1 15 2 = zi (rS fb eb U : Int) ∧ ((nanB fb eb U → s.1 15 3 = zi 1) ∧ (¬ nanB fb eb U → s.1 15 3 = zi 0)) ∧ ((infB fb eb U → s.1 15 4 = zi 1) ∧ (¬ infB fb eb U → s.1 15 4 = zi 0)) ∧ s.2.1 15 5 = zl (rM fb eb U : Int) ∧ s.1 15 6 = zi (lo + rE fb eb U - 1) ∧ ((rF fb U = 0 ∧ 1 < rB fb eb U → s.1 15 7 = zi 1) ∧ (¬ (rF fb U = 0 ∧ 1 < rB fb eb U) → s.1 15 7 = zi 0))
theorem zl_or_pow {a k : Nat} (ha : a < 2 ^ k) (h : a + 2 ^ k < 18446744073709551616) : zl (a : Int) ||| zl ((2 ^ k : Nat) : Int) = zl ((a + 2 ^ k : Nat) : Int) := by
  rw [zl_lN, zl_lN, zl_lN]
  have := g_or' (k := k) (p := 2 ^ k) (a := a) (b := 1) rfl ha (by rw [Nat.one_mul]; exact h)
  rw [Nat.one_mul] at this
  exact this
theorem f101_eq {fb eb : Nat} {lo : Int} {U : Nat} (hk : kindR fb eb lo U) (s : zS) : ∃ s', f101 (zl U) (zi fb) (zi eb) (zi lo) s = some s' ∧ RW s' fb eb lo U ∧ fr [15] [] s s' := by
  have b0 : mBit (zi 0) := by decide
  have b1 : mBit (zi 1) := by decide
  have n01 : ¬ zi 1 = zi 0 := zne (by omega)
  have hU : U < 18446744073709551616 := by rcases hk with h | h <;> omega
  have hfe : fb + eb < 64 ∧ eb < 31 ∧ 1 < eb := by rcases hk with h | h <;> omega
  have hp0 : 0 < 2 ^ fb := Nat.pow_pos (by decide)
  have hF : rF fb U < 2 ^ fb := Nat.mod_lt _ hp0
  have hB : rB fb eb U < 2 ^ eb := Nat.mod_lt _ (Nat.pow_pos (by decide))
  have hQ : 2 ^ eb ≤ 2048 ∧ 4 ≤ 2 ^ eb := by rcases hk with ⟨_, rfl, _⟩ | ⟨_, rfl, _⟩ <;> decide
  have hP : 2 ^ fb ≤ 4503599627370496 := by rcases hk with ⟨rfl, _⟩ | ⟨rfl, _⟩ <;> decide
  have cp : ∀ k : Nat, ((2 : Int) ^ k) = ((2 ^ k : Nat) : Int) := fun k => (Int.natCast_pow 2 k).symm
  -- the parts as the class finds them
  have eS : (zushrL (zl (U : Int)) (zi fb + zi eb)) &&& zl 1 = zl (rS fb eb U : Int) := by
    rw [zi_add]
    have e0 : zi ((fb : Int) + eb) = zi ((fb + eb : Nat) : Int) := rfl
    have e1 : zl 1 = zl (2 ^ 1 - 1) := rfl
    rw [e0, zushrL_pos (by omega) (by omega) hfe.1, cp, e1, zl_and (by decide)]
    rfl
  have eH : zshl (zi 1) (zi eb) - zi 1 = zi ((2 ^ eb : Nat) - 1 : Int) := by
    rcases hk with ⟨_, rfl, _⟩ | ⟨_, rfl, _⟩ <;> decide
  have eB : zL2I (zushrL (zl (U : Int)) (zi fb)) &&& zi ((2 ^ eb : Nat) - 1 : Int) = zi (rB fb eb U : Int) := by
    rw [zushrL_pos (by omega) (by omega) (by omega), cp, zL2I_zl, ← cp eb, zi_and (by omega), cp]
    rfl
  have eM : zshlL (zl 1) (zi fb) - zl 1 = zl ((2 ^ fb : Nat) - 1 : Int) := by
    rcases hk with ⟨rfl, _⟩ | ⟨rfl, _⟩ <;> decide
  have eF : zl (U : Int) &&& zl ((2 ^ fb : Nat) - 1 : Int) = zl (rF fb U : Int) := by
    rw [← cp fb, zl_and (by omega), cp]
    rfl
  have eO : zl (rF fb U : Int) ||| zshlL (zl 1) (zi fb) = zl ((rF fb U + 2 ^ fb : Nat) : Int) := by
    have e1 : zshlL (zl 1) (zi fb) = zl ((2 ^ fb : Nat) : Int) := by
      rcases hk with ⟨rfl, _⟩ | ⟨rfl, _⟩ <;> decide
    rw [e1]
    exact zl_or_pow hF (by omega)
  have eE : ∀ S : zS, zi lo + r264 (zi (rB fb eb U : Int)) (zi 1) S - zi 1 = zi (lo + rE fb eb U - 1) := by
    intro S
    unfold r264 rE
    by_cases q : rB fb eb U = 0
    · rw [if_pos (zlt (by omega)), if_pos q, zi_add, zi_sub]
    · rw [if_neg (znlt (by omega)), if_neg q, zi_add, zi_sub]
  -- the end: size, exponent, near
  have e111 : ∀ (y : Int64) (S : zS), ∃ s', f101_111 (zi lo) (zi (rB fb eb U : Int)) (zl (rF fb U : Int)) y S = some s' ∧ s'.2.1 15 5 = y ∧ s'.1 15 6 = zi (lo + rE fb eb U - 1) ∧ ((rF fb U = 0 ∧ 1 < rB fb eb U → s'.1 15 7 = zi 1) ∧ (¬ (rF fb U = 0 ∧ 1 < rB fb eb U) → s'.1 15 7 = zi 0)) ∧ s'.1 15 2 = S.1 15 2 ∧ s'.1 15 3 = S.1 15 3 ∧ s'.1 15 4 = S.1 15 4 ∧ fr [15] [] S s' := by
    intro y S
    unfold f101_111
    rw [eE]
    by_cases q1 : rF fb U = 0
    · rw [if_neg (not_not_intro (zleq (by omega)))]
      by_cases q2 : rB fb eb U ≤ 1
      · rw [if_pos (zle (by omega))]
        exact ⟨_, rfl, rfl, rfl, ⟨fun h => by omega, fun _ => rfl⟩, rfl, rfl, rfl, ((fr.refl.sJ rfl).sI (.inl rfl)).sI (.inl rfl)⟩
      · rw [if_neg (znle (by omega))]
        exact ⟨_, rfl, rfl, rfl, ⟨fun _ => rfl, fun h => absurd ⟨q1, by omega⟩ h⟩, rfl, rfl, rfl, ((fr.refl.sJ rfl).sI (.inl rfl)).sI (.inl rfl)⟩
    · rw [if_pos (zlne (by omega))]
      exact ⟨_, rfl, rfl, rfl, ⟨fun h => absurd h.1 q1, fun _ => rfl⟩, rfl, rfl, rfl, ((fr.refl.sJ rfl).sI (.inl rfl)).sI (.inl rfl)⟩
  have e91 : ∀ (y : Int) (S : zS), (y = 0 ∨ y = 1) → ∃ s', f101_91 (zi fb) (zi lo) (zi (rB fb eb U : Int)) (zl (rF fb U : Int)) (zi y) S = some s' ∧ s'.2.1 15 5 = zl (rM fb eb U : Int) ∧ s'.1 15 6 = zi (lo + rE fb eb U - 1) ∧ ((rF fb U = 0 ∧ 1 < rB fb eb U → s'.1 15 7 = zi 1) ∧ (¬ (rF fb U = 0 ∧ 1 < rB fb eb U) → s'.1 15 7 = zi 0)) ∧ s'.1 15 2 = S.1 15 2 ∧ s'.1 15 3 = S.1 15 3 ∧ s'.1 15 4 = zi y ∧ fr [15] [] S s' := by
    intro y S hy
    have hb : mBit (zi y) := by rcases hy with rfl | rfl <;> assumption
    have hm : ∀ Y : Int64, (Y = zl (rM fb eb U : Int)) → ∃ s', f101_111 (zi lo) (zi (rB fb eb U : Int)) (zl (rF fb U : Int)) Y (setI S 15 4 (zi y)) = some s' ∧ s'.2.1 15 5 = zl (rM fb eb U : Int) ∧ s'.1 15 6 = zi (lo + rE fb eb U - 1) ∧ ((rF fb U = 0 ∧ 1 < rB fb eb U → s'.1 15 7 = zi 1) ∧ (¬ (rF fb U = 0 ∧ 1 < rB fb eb U) → s'.1 15 7 = zi 0)) ∧ s'.1 15 2 = S.1 15 2 ∧ s'.1 15 3 = S.1 15 3 ∧ s'.1 15 4 = zi y ∧ fr [15] [] S s' := by
      intro Y hY
      subst hY
      obtain ⟨s', a1, a2, a3, a4, a5, a6, a7, a8⟩ := e111 (zl (rM fb eb U : Int)) (setI S 15 4 (zi y))
      exact ⟨s', a1, a2, a3, a4, a5, a6, a7, (fr.refl.sI (.inl rfl)).trans a8⟩
    unfold f101_91
    rw [if_pos hb, eO]
    by_cases q : rB fb eb U = 0
    · rw [if_neg (not_not_intro (zeq (by omega)))]
      exact hm _ (by unfold rM; rw [if_pos q])
    · rw [if_pos (zne (by omega))]
      exact hm _ (by unfold rM; rw [if_neg q])
  have hcast : ((2 ^ eb : Nat) : Int) - 1 = ((2 ^ eb - 1 : Nat) : Int) := by omega
  have e68 : ∀ (y : Int) (S : zS), (y = 0 ∨ y = 1) → ∃ s', f101_68 (zi fb) (zi lo) (zi ((2 ^ eb : Nat) - 1 : Int)) (zi (rB fb eb U : Int)) (zl (rF fb U : Int)) (zi y) S = some s' ∧ s'.2.1 15 5 = zl (rM fb eb U : Int) ∧ s'.1 15 6 = zi (lo + rE fb eb U - 1) ∧ ((rF fb U = 0 ∧ 1 < rB fb eb U → s'.1 15 7 = zi 1) ∧ (¬ (rF fb U = 0 ∧ 1 < rB fb eb U) → s'.1 15 7 = zi 0)) ∧ s'.1 15 2 = S.1 15 2 ∧ s'.1 15 3 = zi y ∧ ((infB fb eb U → s'.1 15 4 = zi 1) ∧ (¬ infB fb eb U → s'.1 15 4 = zi 0)) ∧ fr [15] [] S s' := by
    intro y S hy
    have hb : mBit (zi y) := by rcases hy with rfl | rfl <;> assumption
    unfold f101_68 infB
    rw [if_pos hb]
    by_cases q1 : rB fb eb U = 2 ^ eb - 1
    · rw [if_neg (not_not_intro (zeq (by omega)))]
      by_cases q2 : rF fb U = 0
      · rw [if_neg (not_not_intro (zleq (by omega)))]
        obtain ⟨s', a1, a2, a3, a4, a5, a6, a7, a8⟩ := e91 1 (setI S 15 3 (zi y)) (.inr rfl)
        exact ⟨s', a1, a2, a3, a4, a5, a6, ⟨fun _ => a7, fun h => absurd ⟨q1, q2⟩ h⟩, (fr.refl.sI (.inl rfl)).trans a8⟩
      · rw [if_pos (zlne (by omega))]
        obtain ⟨s', a1, a2, a3, a4, a5, a6, a7, a8⟩ := e91 0 (setI S 15 3 (zi y)) (.inl rfl)
        exact ⟨s', a1, a2, a3, a4, a5, a6, ⟨fun h => absurd h.2 q2, fun _ => a7⟩, (fr.refl.sI (.inl rfl)).trans a8⟩
    · rw [if_pos (zne (by omega))]
      obtain ⟨s', a1, a2, a3, a4, a5, a6, a7, a8⟩ := e91 0 (setI S 15 3 (zi y)) (.inl rfl)
      exact ⟨s', a1, a2, a3, a4, a5, a6, ⟨fun h => absurd h.1 q1, fun _ => a7⟩, (fr.refl.sI (.inl rfl)).trans a8⟩
  have e45 : ∀ (y : Int), (y = 0 ∨ y = 1) → y = (rS fb eb U : Int) → ∃ s', f101_45 (zi fb) (zi lo) (zi ((2 ^ eb : Nat) - 1 : Int)) (zi (rB fb eb U : Int)) (zl (rF fb U : Int)) (zi y) s = some s' ∧ RW s' fb eb lo U ∧ fr [15] [] s s' := by
    intro y hy hyS
    have hb : mBit (zi y) := by rcases hy with rfl | rfl <;> assumption
    unfold f101_45
    rw [if_pos hb]
    have fin : ∀ z : Int, (z = 0 ∨ z = 1) → ((nanB fb eb U → z = 1) ∧ (¬ nanB fb eb U → z = 0)) → ∃ s', f101_68 (zi fb) (zi lo) (zi ((2 ^ eb : Nat) - 1 : Int)) (zi (rB fb eb U : Int)) (zl (rF fb U : Int)) (zi z) (setI s 15 2 (zi y)) = some s' ∧ RW s' fb eb lo U ∧ fr [15] [] s s' := by
      intro z hz hn
      obtain ⟨s', a1, a2, a3, a4, a5, a6, a7, a8⟩ := e68 z (setI s 15 2 (zi y)) hz
      refine ⟨s', a1, ⟨by rw [a5, ← hyS]; rfl, ⟨fun h => by rw [a6, hn.1 h], fun h => by rw [a6, hn.2 h]⟩, a7, a2, a3, a4⟩, (fr.refl.sI (.inl rfl)).trans a8⟩
    unfold nanB at fin
    by_cases q1 : rB fb eb U = 2 ^ eb - 1
    · rw [if_neg (not_not_intro (zeq (by omega)))]
      by_cases q2 : rF fb U = 0
      · rw [if_pos (zleq (by omega))]
        exact fin 0 (.inl rfl) ⟨fun h => absurd q2 h.2, fun _ => rfl⟩
      · rw [if_neg (zlne (by omega))]
        exact fin 1 (.inr rfl) ⟨fun _ => rfl, fun h => absurd ⟨q1, q2⟩ h⟩
    · rw [if_pos (zne (by omega))]
      exact fin 0 (.inl rfl) ⟨fun h => absurd h.1 q1, fun _ => rfl⟩
  have hS : rS fb eb U = 0 ∨ rS fb eb U = 1 := by
    unfold rS
    omega
  unfold f101
  rw [eS, eH, eB, eM, eF]
  rcases hS with e | e
  · rw [e, if_pos (show zl ((0 : Nat) : Int) = zl 0 from rfl)]
    exact e45 0 (.inl rfl) (by rw [e]; rfl)
  · rw [e, if_neg (zlne (by decide))]
    exact e45 1 (.inr rfl) (by rw [e]; rfl)
/-- the bits of an argument, as the class takes them -/
def bitsU (c : Int) (small : Int) : Nat := if small = 1 then low c 32 else low c 64
def fbU (small : Int) : Nat := if small = 1 then 23 else 52
def ebU (small : Int) : Nat := if small = 1 then 8 else 11
def loU (small : Int) : Int := if small = 1 then -149 else -1074
theorem kindU (c : Int) {small : Int} (h : small = 0 ∨ small = 1) : kindR (fbU small) (ebU small) (loU small) (bitsU c small) := by
  rcases h with rfl | rfl
  · have := low_lt c 64
    have e : (2 : Nat) ^ 64 = 18446744073709551616 := by decide
    exact .inl ⟨rfl, rfl, rfl, by show low c 64 < _; omega⟩
  · have := low_lt c 32
    have e : (2 : Nat) ^ 32 = 4294967296 := by decide
    exact .inr ⟨rfl, rfl, rfl, by show low c 32 < _; omega⟩
theorem f100_eq {c small : Int} (h : small = 0 ∨ small = 1) (s : zS) : ∃ s', f100 (zl c) (zi small) s = some s' ∧ RW s' (fbU small) (ebU small) (loU small) (bitsU c small) ∧ fr [15] [] s s' := by
  obtain ⟨s', a1, a2, a3⟩ := f101_eq (kindU c h) s
  refine ⟨s', ?_, a2, a3⟩
  unfold f100
  rcases h with rfl | rfl
  · rw [if_pos rfl, low64 c]
    show zb0 (f101 (zl ((low c 64 : Nat) : Int)) (zi 52) (zi 11) (zi (-1074)) s) _ = _
    have a1' : f101 (zl ((low c 64 : Nat) : Int)) (zi 52) (zi 11) (zi (-1074)) s = some s' := a1
    rw [a1']
    rfl
  · have e1 : zl c &&& zl 4294967295 = zl ((low c 32 : Nat) : Int) := by
      have e2 : zl 4294967295 = zl (2 ^ 32 - 1) := rfl
      rw [e2, zl_and (by decide)]
      congr 1
      unfold low
      have h1 : (0 : Int) < 2 ^ 32 := by decide
      have h3 := Int.emod_nonneg c (show (2 : Int) ^ 32 ≠ 0 by decide)
      omega
    rw [if_neg (zne (by omega)), e1]
    have a1' : f101 (zl ((low c 32 : Nat) : Int)) (zi 23) (zi 8) (zi (-149)) s = some s' := a1
    rw [a1']
    rfl
