/-! reals in sixteens: what is written, and how the class writes it -/
theorem zl00 : ¬ ¬ zl ((0 : Nat) : Int) = zl 0 := not_not_intro rfl
theorem zi00 : ¬ ¬ zi ((0 : Nat) : Int) = zi 0 := not_not_intro rfl
def nib (M i : Nat) : Nat := if i ≤ 13 then M / 2 ^ (52 - 4 * i) % 16 else 0
theorem nib_lt (M i : Nat) : nib M i < 16 := by
  unfold nib
  split <;> omega
def hq (M : Nat) : Nat → Nat → List Int
  | _, 0 => []
  | i, d + 1 => dch (nib M i) :: hq M (i + 1) d
theorem hq_len (M : Nat) : ∀ d i, (hq M i d).length = d
  | 0, _ => rfl
  | d + 1, i => congrArg (· + 1) (hq_len M d (i + 1))
theorem hq_asc (M : Nat) : ∀ d i, asc (hq M i d)
  | 0, _ => fun v hv => by cases hv
  | d + 1, i => by
    intro v hv
    rcases List.mem_cons.mp hv with rfl | hv
    · have := dch_asc (nib_lt M i)
      omega
    · exact hq_asc M d (i + 1) v hv
theorem hq_app (M : Nat) : ∀ d i e, hq M i (d + e) = hq M i d ++ hq M (i + d) e
  | 0, i, e => by rw [Nat.zero_add]; rfl
  | d + 1, i, e => by
    have h : d + 1 + e = (d + e) + 1 := by omega
    rw [h]
    show _ :: hq M (i + 1) (d + e) = _ :: (hq M (i + 1) d ++ hq M (i + (d + 1)) e)
    rw [hq_app M d (i + 1) e]
    have h2 : i + 1 + d = i + (d + 1) := by omega
    rw [h2]
theorem hq_far (M : Nat) : ∀ d i, 13 < i → hq M i d = List.replicate d 48
  | 0, _, _ => rfl
  | d + 1, i, h => by
    show dch (nib M i) :: hq M (i + 1) d = 48 :: List.replicate d 48
    rw [hq_far M d (i + 1) (by omega)]
    unfold nib
    rw [if_neg (by omega)]
    rfl
/-- how many are needed -/
def ndg (M : Nat) : Nat → Nat
  | 0 => 0
  | i + 1 => if i = 0 then 1 else if nib M (i + 1) = 0 then ndg M i else i + 1
theorem ndg_rng (M : Nat) : ∀ i, 1 ≤ ndg M (i + 1) ∧ ndg M (i + 1) ≤ i + 1
  | 0 => ⟨Nat.le_refl _, Nat.le_refl _⟩
  | i + 1 => by
    have h := ndg_rng M i
    unfold ndg
    rw [if_neg (by omega)]
    split
    · omega
    · omega
/-- rounded to a multiple -/
def rup (G k : Nat) : Nat := if 2 ^ (k - 1) < G % 2 ^ k ∨ (G % 2 ^ k = 2 ^ (k - 1) ∧ G / 2 ^ k % 2 = 1) then G / 2 ^ k + 1 else G / 2 ^ k
def hR (G q : Nat) : Nat := if 1 ≤ q ∧ q < 13 then rup G (4 * (13 - q)) * 2 ^ (4 * (13 - q)) else G
def hM (G q : Nat) : Nat := if hR G q < 9007199254740992 then hR G q else hR G q / 2
def hE (G q : Nat) (e : Int) : Int := if hR G q < 9007199254740992 then e else e + 1
def hN (G q : Nat) : Nat := if q = 0 then ndg G 13 else q
theorem hR_none {G q : Nat} (h : ¬ (1 ≤ q ∧ q < 13)) : hR G q = G := by
  unfold hR
  rw [if_neg h]
theorem hR_le {G q : Nat} (hG : G < 9007199254740992) : hR G q ≤ 9007199254740992 := by
  unfold hR
  split
  · rename_i h
    obtain ⟨k, hk, hk2⟩ : ∃ k, k = 4 * (13 - q) ∧ k ≤ 52 := ⟨_, rfl, by omega⟩
    rw [← hk]
    have e : 2 ^ (53 - k) * 2 ^ k = 9007199254740992 := by
      rw [← Nat.pow_add]
      have e2 : 53 - k + k = 53 := by omega
      rw [e2] <;> decide
    have h1 : G / 2 ^ k < 2 ^ (53 - k) := Nat.div_lt_of_lt_mul (by rw [Nat.mul_comm, e]; exact hG)
    have h2 : rup G k ≤ 2 ^ (53 - k) := by
      unfold rup
      split <;> omega
    exact Nat.le_trans (Nat.mul_le_mul_right _ h2) (Nat.le_of_eq e)
  · omega
theorem hM_lt {G q : Nat} (hG : G < 9007199254740992) : hM G q < 9007199254740992 := by
  have := hR_le (q := q) hG
  unfold hM
  split <;> omega
theorem hN_rng {G q : Nat} (hq : q ≤ 1100) : 1 ≤ hN G q ∧ hN G q ≤ 1100 := by
  have h : 1 ≤ ndg G 13 ∧ ndg G 13 ≤ 13 := ndg_rng G 12
  unfold hN
  split <;> omega
/-- a number with its sign -/
def sgv (v : Int) : List Int := (if v < 0 then [45] else []) ++ ds v.natAbs (kk v.natAbs 1)
def hxD (G q : Nat) : List Int := [(48 + (hM G q / 4503599627370496 : Nat) : Int)]
def hxV (G q : Nat) (e : Int) : Int := if G = 0 then 0 else hE G q e + 52
def hxT (G q : Nat) (e : Int) : List Int := 46 :: (hq (hM G q) 1 (hN G q) ++ 112 :: sgv (hxV G q e))
/-! shifts -/
theorem ushrN {V t : Nat} (hV : V < 18446744073709551616) (ht : t < 64) : zushrL (zl V) (zi t) = zl ((V / 2 ^ t : Nat) : Int) := by
  rw [zushrL_pos (by omega) (by omega) ht]
  rfl
theorem shrN {V t : Nat} (hV : V < 9223372036854775808) (ht : t < 64) : zshrL (zl V) (zi t) = zl ((V / 2 ^ t : Nat) : Int) := by
  rw [zshrL_zl (by omega) (by omega) ht]
  rfl
theorem shlN (V : Nat) {t : Nat} (ht : t < 64) : zshlL (zl V) (zi t) = zl ((V * 2 ^ t : Nat) : Int) := by
  rw [zshlL_zl _ ht, Int.natCast_mul, Int.natCast_pow]
  rfl
theorem sh52 {i : Nat} (h : i ≤ 13) : zi 52 - zi 4 * zi (i : Int) = zi ((52 - 4 * i : Nat) : Int) := by
  rw [zi_mul, zi_sub]
  exact congrArg zi (by omega)
theorem and15 (a : Nat) : zi (a : Int) &&& zi 15 = zi ((a % 16 : Nat) : Int) := by
  have e := zi_and (a := (a : Int)) (k := 4) (by decide)
  exact e
theorem andL15 (a : Nat) : zl (a : Int) &&& zl 15 = zl ((a % 16 : Nat) : Int) := by
  have e := zl_and (a := (a : Int)) (k := 4) (by decide)
  exact e
theorem nib_in {M i : Nat} (h : i ≤ 13) : M / 2 ^ (52 - 4 * i) % 16 = nib M i := by
  unfold nib
  rw [if_pos h]
theorem nibC {M i : Nat} (hM : M < 9007199254740992) (h2 : i ≤ 13) : (zL2I (zushrL (zl (M : Int)) ((zi 52) - ((zi 4) * zi (i : Int))))) &&& (zi 15) = zi ((nib M i : Nat) : Int) := by
  rw [sh52 h2, ushrN (by omega) (by omega), zL2I_zl, and15, nib_in h2]
theorem nibCL {M i : Nat} (hM : M < 9007199254740992) (h2 : i ≤ 13) : (zushrL (zl (M : Int)) ((zi 52) - ((zi 4) * zi (i : Int)))) &&& (zl 15) = zl ((nib M i : Nat) : Int) := by
  rw [sh52 h2, ushrN (by omega) (by omega), andL15, nib_in h2]
theorem nibM {M i : Nat} (hM : M < 9007199254740992) (h2 : i ≤ 13) : (zL2I (zshrL (zl (M : Int)) ((zi 52) - ((zi 4) * zi (i : Int))))) &&& (zi 15) = zi ((nib M i : Nat) : Int) := by
  rw [sh52 h2, shrN (by omega) (by omega), zL2I_zl, and15, nib_in h2]
theorem nibML {M i : Nat} (hM : M < 9007199254740992) (h2 : i ≤ 13) : (zshrL (zl (M : Int)) ((zi 52) - ((zi 4) * zi (i : Int)))) &&& (zl 15) = zl ((nib M i : Nat) : Int) := by
  rw [sh52 h2, shrN (by omega) (by omega), andL15, nib_in h2]
/-! the class: align -/
theorem f109_nz {E : Int} (hE1 : -1074 ≤ E) (hE2 : E ≤ 971) : ∀ (d i n : Nat) (s : zS) (A : Nat), d + i ≤ 52 → d < n → 0 < A → A * 2 ^ d < 9007199254740992 → s.2.1 15 5 = zl A → s.1 15 6 = zi (E + d) → (E = -1074 ∨ 4503599627370496 ≤ A * 2 ^ d) →
    ∃ s', f109_2 n (zi i) s = some s' ∧ s'.2.1 15 5 = zl ((A * 2 ^ d : Nat) : Int) ∧ s'.1 15 6 = zi E ∧ s'.1 15 2 = s.1 15 2 ∧ fr [15] [] s s' := by
  intro d
  induction d with
  | zero =>
    intro i n s A hi hn hA hlt e5 e6 hE
    obtain ⟨k, rfl⟩ : ∃ k, n = k + 1 := ⟨n - 1, by omega⟩
    rw [Nat.pow_zero, Nat.mul_one] at hlt hE ⊢
    refine ⟨s, ?_, e5, by rw [e6]; exact congrArg zi (by omega), rfl, fr.refl⟩
    show b109_2 (f109_2 k) (zi i) s = _
    unfold b109_2
    by_cases c1 : 52 ≤ i
    · rw [if_pos (zge (by omega))]
    · have e52 : zushrL (zl (A : Int)) (zi 52) = zl ((A / 2 ^ 52 : Nat) : Int) := ushrN (t := 52) (by omega) (by decide)
      rw [if_neg (znge (by omega)), e5, e52]
      by_cases c2 : A < 4503599627370496
      · have hz : A / 2 ^ 52 = 0 := Nat.div_eq_of_lt (Nat.lt_of_lt_of_le c2 (by decide))
        rw [hz, if_neg zl00, e6, if_pos (zle (by omega))]
      · have hz : 1 ≤ A / 2 ^ 52 := (Nat.le_div_iff_mul_le (by decide)).mpr (by omega)
        rw [if_pos (zlne (by omega))]
  | succ d ih =>
    intro i n s A hi hn hA hlt e5 e6 hE
    obtain ⟨k, rfl⟩ : ∃ k, n = k + 1 := ⟨n - 1, by omega⟩
    have ep : A * 2 ^ (d + 1) = A * 2 * 2 ^ d := by rw [Nat.pow_succ, Nat.mul_assoc, Nat.mul_comm 2 (2 ^ d)]
    rw [ep] at hlt hE ⊢
    have hA2 : A < 4503599627370496 := by
      have h1 : 1 ≤ 2 ^ d := Nat.pow_pos (by decide)
      have h2 : A * 2 * 1 ≤ A * 2 * 2 ^ d := Nat.mul_le_mul_left _ h1
      omega
    have e52 : zushrL (zl (A : Int)) (zi 52) = zl ((A / 2 ^ 52 : Nat) : Int) := ushrN (t := 52) (by omega) (by decide)
    have hz : A / 2 ^ 52 = 0 := Nat.div_eq_of_lt (Nat.lt_of_lt_of_le hA2 (by decide))
    have e1 : zshlL (zl (A : Int)) (zi 1) = zl ((A * 2 : Nat) : Int) := shlN A (t := 1) (by decide)
    have e6' : s.1 15 6 - zi 1 = zi (E + d) := by rw [e6, zi_sub]; exact congrArg zi (by omega)
    obtain ⟨s', a1, a2, a3, a4, a5⟩ := ih (i + 1) k (setI (setJ s 15 5 (zl ((A * 2 : Nat) : Int))) 15 6 (zi (E + d))) (A * 2) (by omega) (by omega) (by omega) hlt rfl rfl hE
    refine ⟨s', ?_, a2, a3, a4, ((fr.refl.sJ rfl).sI (.inl rfl)).trans a5⟩
    show b109_2 (f109_2 k) (zi i) s = _
    unfold b109_2
    have ei : zi (i : Int) + zi 1 = zi ((i + 1 : Nat) : Int) := zi_add _ _
    rw [if_neg (znge (by omega)), if_neg (by rw [e5, e52, hz]; exact not_not_intro rfl), if_neg (by rw [e6]; exact znle (by omega)), e6', e5, e1, ei]
    exact a1
theorem f109_z : ∀ (d i n : Nat) (s : zS) (E : Int), d + i = 52 → d < n → s.2.1 15 5 = zl 0 → s.1 15 6 = zi E → -1500 ≤ E - d → E ≤ 2000 →
    ∃ s' E', f109_2 n (zi i) s = some s' ∧ s'.2.1 15 5 = zl 0 ∧ s'.1 15 6 = zi E' ∧ -1500 ≤ E' ∧ E' ≤ 2000 ∧ s'.1 15 2 = s.1 15 2 ∧ fr [15] [] s s' := by
  intro d
  induction d with
  | zero =>
    intro i n s E hi hn e5 e6 h1 h2
    obtain ⟨k, rfl⟩ : ∃ k, n = k + 1 := ⟨n - 1, by omega⟩
    refine ⟨s, E, ?_, e5, e6, by omega, by omega, rfl, fr.refl⟩
    show b109_2 (f109_2 k) (zi i) s = _
    unfold b109_2
    rw [if_pos (zge (by omega))]
  | succ d ih =>
    intro i n s E hi hn e5 e6 h1 h2
    obtain ⟨k, rfl⟩ : ∃ k, n = k + 1 := ⟨n - 1, by omega⟩
    have e52 : zushrL (zl 0) (zi 52) = zl 0 := by decide +kernel
    have e1 : zshlL (zl 0) (zi 1) = zl 0 := by decide +kernel
    have e6' : s.1 15 6 - zi 1 = zi (E - 1) := by rw [e6, zi_sub]
    by_cases c : E ≤ -1074
    · refine ⟨s, E, ?_, e5, e6, by omega, by omega, rfl, fr.refl⟩
      show b109_2 (f109_2 k) (zi i) s = _
      unfold b109_2
      rw [if_neg (znge (by omega)), if_neg (by rw [e5, e52]; exact not_not_intro rfl), if_pos (by rw [e6]; exact zle (by omega))]
    · obtain ⟨s', E', a1, a2, a3, a4, a5, a6, a7⟩ := ih (i + 1) k (setI (setJ s 15 5 (zl 0)) 15 6 (zi (E - 1))) (E - 1) (by omega) (by omega) rfl rfl (by omega) (by omega)
      refine ⟨s', E', ?_, a2, a3, a4, a5, a6, ((fr.refl.sJ rfl).sI (.inl rfl)).trans a7⟩
      show b109_2 (f109_2 k) (zi i) s = _
      unfold b109_2
      have ei : zi (i : Int) + zi 1 = zi ((i + 1 : Nat) : Int) := zi_add _ _
      rw [if_neg (znge (by omega)), if_neg (by rw [e5, e52]; exact not_not_intro rfl), if_neg (by rw [e6]; exact znle (by omega)), e6', e5, e1, ei]
      exact a1
/-- a size with its exponent, and the same aligned -/
def AL (A : Nat) (X : Int) (G : Nat) (E : Int) : Prop := G < 9007199254740992 ∧ -1074 ≤ E ∧ E ≤ 971 ∧ (E = -1074 ∨ 4503599627370496 ≤ G ∨ G = 0) ∧ -1074 ≤ X ∧ X ≤ 971 ∧ ∃ j : Nat, G = A * 2 ^ j ∧ E = X - j
theorem f109_eq {A G : Nat} {X E : Int} (h : AL A X G E) {s : zS} (e5 : s.2.1 15 5 = zl A) (e6 : s.1 15 6 = zi X) : ∃ s' E', f109 s = some s' ∧ s'.2.1 15 5 = zl G ∧ s'.1 15 6 = zi E' ∧ -1500 ≤ E' ∧ E' ≤ 2000 ∧ (G ≠ 0 → E' = E) ∧ s'.1 15 2 = s.1 15 2 ∧ fr [15] [] s s' := by
  obtain ⟨h1, h2, h3, h4, h5, h6, j, h7, h8⟩ := h
  by_cases c : A = 0
  · subst c
    have hG : G = 0 := by rw [h7, Nat.zero_mul]
    subst hG
    obtain ⟨s', E', a1, a2, a3, a4, a5, a6, a7⟩ := f109_z 52 0 zF s X rfl (by unfold zF; omega) e5 e6 (by omega) (by omega)
    exact ⟨s', E', a1, a2, a3, a4, a5, fun g => absurd rfl g, a6, a7⟩
  · have hj : j ≤ 52 := by
      apply Classical.byContradiction
      intro q
      have g1 : 2 ^ 53 ≤ 2 ^ j := Nat.pow_le_pow_right (by decide) (by omega)
      have g2 : 1 * 2 ^ j ≤ A * 2 ^ j := Nat.mul_le_mul_right _ (by omega)
      have g3 : (2 : Nat) ^ 53 = 9007199254740992 := by decide
      omega
    have hnz : A * 2 ^ j ≠ 0 := by
      have g1 : 1 ≤ 2 ^ j := Nat.pow_pos (by decide)
      have g2 : A * 1 ≤ A * 2 ^ j := Nat.mul_le_mul_left _ g1
      omega
    obtain ⟨s', a1, a2, a3, a4, a5⟩ := f109_nz h2 h3 j 0 zF s A (by omega) (by unfold zF; omega) (by omega) (by rw [← h7]; exact h1) e5 (by rw [e6]; exact congrArg zi (by omega)) (by rw [← h7]; rw [← h7] at hnz; omega)
    refine ⟨s', E, a1, ?_, a3, by omega, by omega, fun _ => rfl, a4, a5⟩
    rw [a2, h7]
/-! round -/
theorem f110_79_eq {k H q G : Nat} {e : Int} (hk : k ≤ 48) (hG : G < 9007199254740992) (hH : H * 2 ^ k = hR G q) {s : zS} (e6 : s.1 15 6 = zi e) : ∃ s', f110_79 (zi k) (zl H) s = some s' ∧ s'.2.1 15 5 = zl (hM G q : Nat) ∧ s'.1 15 6 = zi (hE G q e) ∧ s'.1 15 2 = s.1 15 2 ∧ fr [15] [] s s' := by
  have hle := hR_le (q := q) hG
  unfold f110_79 hM hE
  rw [shlN H (by omega), hH]
  have e52 : zushrL (zl (hR G q : Nat)) (zi 52) = zl ((hR G q / 2 ^ 52 : Nat) : Int) := ushrN (t := 52) (by omega) (by decide)
  have e1 : zushrL (zl (hR G q : Nat)) (zi 1) = zl ((hR G q / 2 : Nat) : Int) := ushrN (t := 1) (by omega) (by decide)
  have ep : (2 : Nat) ^ 52 = 4503599627370496 := by decide
  rw [e52, e1, ep]
  by_cases c : hR G q < 9007199254740992
  · rw [if_pos (zlle (by omega)), if_pos c, if_pos c]
    exact ⟨_, rfl, rfl, e6, rfl, fr.refl.sJ rfl⟩
  · rw [if_neg (zlnle (by omega)), if_neg c, if_neg c]
    refine ⟨_, rfl, rfl, ?_, rfl, ((fr.refl.sJ rfl).sJ rfl).sI (.inl rfl)⟩
    show s.1 15 6 + zi 1 = _
    rw [e6, zi_add]
theorem f110_eq {q G : Nat} {e : Int} (h1 : 1 ≤ q) (h2 : q < 13) (hG : G < 9007199254740992) {s : zS} (e5 : s.2.1 15 5 = zl G) (e6 : s.1 15 6 = zi e) : ∃ s', f110 (zi q) s = some s' ∧ s'.2.1 15 5 = zl (hM G q : Nat) ∧ s'.1 15 6 = zi (hE G q e) ∧ s'.1 15 2 = s.1 15 2 ∧ fr [15] [] s s' := by
  obtain ⟨k, hk, hk1, hk2⟩ : ∃ k, k = 4 * (13 - q) ∧ k ≤ 48 ∧ 4 ≤ k := ⟨_, rfl, by omega, by omega⟩
  have ek : zi 4 * (zi 13 - zi (q : Int)) = zi (k : Int) := by
    rw [zi_sub, zi_mul]
    exact congrArg zi (by omega)
  have hHR : rup G k * 2 ^ k = hR G q := by
    unfold hR
    rw [if_pos ⟨h1, h2⟩, hk]
  obtain ⟨s', r⟩ := f110_79_eq (k := k) (H := rup G k) (q := q) (e := e) (by omega) hG hHR e6
  refine ⟨s', ?_, r.2⟩
  rw [← r.1]
  have hdm := Nat.div_add_mod G (2 ^ k)
  have ek1 : zi (k : Int) - zi 1 = zi ((k - 1 : Nat) : Int) := by
    rw [zi_sub]
    exact congrArg zi (by omega)
  have ehf : zshlL (zl 1) (zi ((k - 1 : Nat) : Int)) = zl ((2 ^ (k - 1) : Nat) : Int) := by
    have := shlN 1 (t := k - 1) (by omega)
    rw [Nat.one_mul] at this
    exact this
  have hhalf : 2 ^ (k - 1) < 9007199254740992 := Nat.lt_of_le_of_lt (Nat.pow_le_pow_right (by decide) (show k - 1 ≤ 52 by omega)) (by decide)
  have hle : G / 2 ^ k ≤ G := Nat.div_le_self _ _
  have hlm : G % 2 ^ k ≤ G := Nat.mod_le _ _
  have esub : zl (G : Int) - zl ((G / 2 ^ k * 2 ^ k : Nat) : Int) = zl ((G % 2 ^ k : Nat) : Int) := by
    rw [zl_sub]
    refine congrArg zl ?_
    rw [Nat.mul_comm] at hdm
    generalize G / 2 ^ k * 2 ^ k = y at *
    omega
  have erem : zremL (zl ((G / 2 ^ k : Nat) : Int)) (zl 2) = zl ((G / 2 ^ k % 2 : Nat) : Int) := by
    generalize G / 2 ^ k = H at hle ⊢
    rw [zl_rem (by omega) (by omega) (by omega) (by omega)]
    rfl
  unfold f110
  rw [ek, e5, ushrN (by omega) (by omega), shlN _ (by omega), esub, ek1, ehf, erem]
  have h62a : f110_62 (zi (k : Int)) (zl ((G / 2 ^ k : Nat) : Int)) (zi 1) s = f110_79 (zi (k : Int)) (zl ((G / 2 ^ k + 1 : Nat) : Int)) s := by
    unfold f110_62
    rw [if_neg (zne (by omega)), zl_add]
    rfl
  have h62b : f110_62 (zi (k : Int)) (zl ((G / 2 ^ k : Nat) : Int)) (zi 0) s = f110_79 (zi (k : Int)) (zl ((G / 2 ^ k : Nat) : Int)) s := by
    unfold f110_62
    rw [if_pos rfl]
  rw [h62a, h62b]
  unfold rup
  generalize G / 2 ^ k = H at *
  generalize G % 2 ^ k = R at *
  generalize 2 ^ (k - 1) = hf at *
  by_cases c1 : hf < R
  · rw [if_pos (zlgt (by omega)), if_pos (.inl c1)]
  · rw [if_neg (zlngt (by omega))]
    by_cases c2 : R = hf
    · rw [if_neg (show ¬ ¬ zl (R : Int) = zl (hf : Int) from not_not_intro (by rw [c2]))]
      by_cases c3 : H % 2 = 1
      · rw [if_neg (zlne (by omega)), if_pos (.inr ⟨c2, c3⟩)]
      · have c4 : H % 2 = 0 := by omega
        rw [if_pos (by rw [c4]; rfl), if_neg (fun g => g.elim (fun g => c1 g) (fun g => c3 g.2))]
    · rw [if_pos (zlne (by omega)), if_neg (fun g => g.elim (fun g => c1 g) (fun g => c2 g.1))]
/-! needed digits -/
theorem f111_loop {G : Nat} (hG : G < 9007199254740992) {s : zS} (e5 : s.2.1 15 5 = zl G) : ∀ (i n : Nat), i < 13 → i < n → f111_3 n (zi ((i + 1 : Nat) : Int)) s = some (zi (ndg G (i + 1) : Nat), s) := by
  intro i
  induction i with
  | zero =>
    intro n _ hn
    obtain ⟨k, rfl⟩ : ∃ k, n = k + 1 := ⟨n - 1, by omega⟩
    show b111_3 (f111_3 k) (zi ((0 + 1 : Nat) : Int)) s = _
    unfold b111_3
    rw [if_pos (zle (by omega))]
    rfl
  | succ i ih =>
    intro n hi hn
    obtain ⟨k, rfl⟩ : ∃ k, n = k + 1 := ⟨n - 1, by omega⟩
    show b111_3 (f111_3 k) (zi ((i + 1 + 1 : Nat) : Int)) s = _
    unfold b111_3
    rw [if_neg (znle (by omega)), e5, nibCL hG (by omega)]
    have hn := nib_lt G (i + 1 + 1)
    have en : ndg G (i + 1 + 1) = if nib G (i + 1 + 1) = 0 then ndg G (i + 1) else i + 1 + 1 := by
      show (if i + 1 = 0 then 1 else _) = _
      rw [if_neg (by omega)]
    rw [en]
    by_cases c : nib G (i + 1 + 1) = 0
    · rw [if_pos c, c, if_neg zl00]
      have ei : zi ((i + 1 + 1 : Nat) : Int) + zi (-1) = zi ((i + 1 : Nat) : Int) := by
        rw [zi_add]
        exact congrArg zi (by omega)
      rw [ei]
      exact ih k (by omega) (by omega)
    · rw [if_neg c, if_pos (zlne (by omega))]
theorem f111_eq {G : Nat} (hG : G < 9007199254740992) {s : zS} (e5 : s.2.1 15 5 = zl G) : f111 s = some (zi (ndg G 13 : Nat), s) := f111_loop hG e5 12 zF (by omega) (by unfold zF; omega)
/-! zeros -/
theorem f74_loop {z : Int} (hz : z ≤ 1500) (hz2 : -2000 ≤ z) : ∀ (d i n : Nat) (s : zS) (l : List Int) (g w : Int), d = (z - i).toNat → d < n → i ≤ 1500 → PC s l g w → l.length + d ≤ 1600 →
    ∃ s', f74_2 n (zi z) (zi i) s = some s' ∧ PC s' (l ++ List.replicate d 48) g w ∧ fr [13, 14] [] s s' := by
  intro d
  induction d with
  | zero =>
    intro i n s l g w hi hn hi2 hP hl
    obtain ⟨k, rfl⟩ : ∃ k, n = k + 1 := ⟨n - 1, by omega⟩
    refine ⟨s, ?_, by rw [List.replicate_zero]; exact hP.nil, fr.refl⟩
    show b74_2 (f74_2 k) (zi z) (zi i) s = _
    unfold b74_2
    rw [r265_min (by omega) (by omega) (by omega) (by omega), if_pos (zge (by omega))]
  | succ d ih =>
    intro i n s l g w hi hn hi2 hP hl
    obtain ⟨k, rfl⟩ : ∃ k, n = k + 1 := ⟨n - 1, by omega⟩
    obtain ⟨s1, a1, a2, a3⟩ := hP.add (by omega) (b := 48) (by omega) (by omega)
    obtain ⟨s2, b1, b2, b3⟩ := ih (i + 1) k s1 (l ++ [48]) g w (by omega) (by omega) (by omega) a2 (by rw [List.length_append]; show l.length + 1 + d ≤ 1600; omega)
    refine ⟨s2, ?_, by rw [List.append_assoc] at b2; exact b2, a3.trans b3⟩
    show b74_2 (f74_2 k) (zi z) (zi i) s = _
    unfold b74_2
    have ei : zi (i : Int) + zi 1 = zi ((i + 1 : Nat) : Int) := zi_add _ _
    rw [r265_min (by omega) (by omega) (by omega) (by omega), if_neg (znge (by omega)), a1, zb0_mk, ei]
    exact b1
/-! the digits -/
theorem f108_97_loop {M q : Nat} {x4 e : Int} (hM : M < 9007199254740992) (hq1 : 1 ≤ q) (hq2 : q ≤ 1100) (hx : x4 = 0 ∨ x4 = 1) (he1 : -2000 ≤ e) (he2 : e ≤ 2100) : ∀ (d i n : Nat) (s : zS) (l : List Int) (g w : Int), d + i = min q 13 + 1 → 1 ≤ i → d < n → PC s l g w → l.length + d ≤ 200 → s.2.1 15 5 = zl M → s.1 15 6 = zi e →
    ∃ s', f108_97 n (zi x4) (zi q) (zi i) s = some s' ∧ PC s' (l ++ (hq M i (d + (q - 13)) ++ 112 :: sgv (if x4 = 0 then e + 52 else 0))) g w ∧ fr [13, 14] [] s s' := by
  intro d
  induction d with
  | zero =>
    intro i n s l g w hi h1 hn hP hl e5 e6
    obtain ⟨k, rfl⟩ : ∃ k, n = k + 1 := ⟨n - 1, by omega⟩
    obtain ⟨s1, a1, a2, a3⟩ := f74_loop (z := (q : Int) - 13) (by omega) (by omega) (q - 13) 0 zF s l g w (by omega) (by unfold zF; omega) (by omega) hP (by omega)
    obtain ⟨s2, b1, b2, b3⟩ := a2.add (by rw [List.length_append, List.length_replicate]; omega) (b := 112) (by omega) (by omega)
    have e62 : s2.1 15 6 = zi e := by rw [b3.f rfl (by decide), a3.f rfl (by decide)]; exact e6
    have hex : ∃ s', (if zi x4 = zi 0 then f108_168 (zI2L ((s2.1 15 6) + (zi 52))) s2 else f108_168 (zl 0) s2) = some s' ∧ PC s' (l ++ List.replicate (q - 13) 48 ++ [112] ++ sgv (if x4 = 0 then e + 52 else 0)) g w ∧ fr [13, 14] [] s2 s' := by
      unfold f108_168
      rcases hx with rfl | rfl
      · rw [if_pos rfl, if_pos rfl, e62, zi_add, zI2L_zi (by omega) (by omega)]
        obtain ⟨s3, c1, c2, c3⟩ := b2.signed (v := e + 52) (by omega) (by omega) (by rw [List.length_append, List.length_append, List.length_replicate]; show l.length + (q - 13) + 1 ≤ 1400; omega)
        exact ⟨s3, by rw [c1]; rfl, c2, c3⟩
      · rw [if_neg (zne (by omega)), if_neg (by omega)]
        obtain ⟨s3, c1, c2, c3⟩ := b2.signed (v := 0) (by omega) (by omega) (by rw [List.length_append, List.length_append, List.length_replicate]; show l.length + (q - 13) + 1 ≤ 1400; omega)
        exact ⟨s3, by rw [c1]; rfl, c2, c3⟩
    obtain ⟨s3, c1, c2, c3⟩ := hex
    refine ⟨s3, ?_, ?_, (a3.trans b3).trans c3⟩
    · show b108_97 (f108_97 k) (zi x4) (zi q) (zi i) s = _
      unfold b108_97 f74
      rw [r265_min (by omega) (by omega) (by omega) (by omega), if_pos (zgt (by omega)), zi_sub]
      have a1' : f74_2 zF (zi ((q : Int) - 13)) (zi 0) s = some s1 := a1
      rw [a1', zb0_mk, b1, zb0_mk]
      exact c1
    · have eh : hq M i (0 + (q - 13)) = List.replicate (q - 13) 48 := by
        rw [Nat.zero_add]
        by_cases c : q ≤ 13
        · have e0 : q - 13 = 0 := by omega
          rw [e0]
          rfl
        · exact hq_far M _ i (by omega)
      rw [eh]
      rw [List.append_assoc, List.append_assoc] at c2
      exact c2
  | succ d ih =>
    intro i n s l g w hi h1 hn hP hl e5 e6
    obtain ⟨k, rfl⟩ : ∃ k, n = k + 1 := ⟨n - 1, by omega⟩
    obtain ⟨s1, a1, a2, a3⟩ := hP.digit (nib_lt M i) (by omega)
    obtain ⟨s2, b1, b2, b3⟩ := ih (i + 1) k s1 _ g w (by omega) (by omega) (by omega) a2 (by rw [List.length_append]; show l.length + 1 + d ≤ 200; omega) (by rw [a3.l rfl]; exact e5) (by rw [a3.f rfl (by decide)]; exact e6)
    refine ⟨s2, ?_, ?_, a3.trans b3⟩
    · show b108_97 (f108_97 k) (zi x4) (zi q) (zi i) s = _
      unfold b108_97
      have ei : zi (i : Int) + zi 1 = zi ((i + 1 : Nat) : Int) := zi_add _ _
      rw [r265_min (by omega) (by omega) (by omega) (by omega), if_neg (zngt (by omega)), e5, nibC hM (by omega), a1, zb0_mk, ei]
      exact b1
    · have eh : d + 1 + (q - 13) = (d + (q - 13)) + 1 := by omega
      rw [eh]
      rw [List.append_assoc] at b2
      exact b2
theorem lit_0x : lit 50 = [48, 120] := by decide +kernel
theorem f108_62_eq {G q : Nat} {x4 E' : Int} (hG : G < 9007199254740992) (hq0 : q ≤ 1100) (hx : x4 = 0 ∨ x4 = 1) (he1 : -1500 ≤ E') (he2 : E' ≤ 2000) {x3 : Int} (hx3 : (q = 0 ∧ x3 = -1) ∨ (1 ≤ q ∧ x3 = q)) {s : zS} {l : List Int} {g w : Int} (hP : PC s l g w) (hl : l.length ≤ 100) (e5 : s.2.1 15 5 = zl (hM G q : Nat)) (e6 : s.1 15 6 = zi (hE G q E')) :
    ∃ s', f108_62 (zi x3) (zi x4) s = some s' ∧ PC s' (l ++ (hxD G q ++ 46 :: (hq (hM G q) 1 (hN G q) ++ 112 :: sgv (if x4 = 0 then hE G q E' + 52 else 0)))) g w ∧ fr [13, 14] [] s s' := by
  have hMl := hM_lt (q := q) hG
  have hNr := hN_rng (G := G) hq0
  have hEr : E' ≤ hE G q E' ∧ hE G q E' ≤ E' + 1 := by
    unfold hE
    split <;> omega
  have e52 : zL2I (zushrL (zl (hM G q : Nat)) (zi 52)) = zi ((hM G q / 4503599627370496 : Nat) : Int) := by
    have := ushrN (V := hM G q) (t := 52) (by omega) (by decide)
    have ep : (2 : Nat) ^ 52 = 4503599627370496 := by decide
    rw [ep] at this
    exact (congrArg zL2I this).trans (zL2I_zl _)
  have hld : hM G q / 4503599627370496 < 10 := by omega
  obtain ⟨s1, a1, a2, a3⟩ := hP.digit (c := hM G q / 4503599627370496) (by omega) (by omega)
  have ed : dch (hM G q / 4503599627370496) = (48 + (hM G q / 4503599627370496 : Nat) : Int) := by
    unfold dch
    rw [if_pos hld]
  rw [ed] at a2
  obtain ⟨s2, b1, b2, b3⟩ := a2.add (by rw [List.length_append]; show l.length + 1 < 1600; omega) (b := 46) (by omega) (by omega)
  have f2 : fr [13, 14] [] s s2 := a3.trans b3
  have e5' : s2.2.1 15 5 = zl (hM G q : Nat) := by rw [f2.l rfl]; exact e5
  have e6' : s2.1 15 6 = zi (hE G q E') := by rw [f2.f rfl (by decide)]; exact e6
  obtain ⟨s3, c1, c2, c3⟩ := f108_97_loop (M := hM G q) (q := hN G q) (x4 := x4) (e := hE G q E') hMl hNr.1 hNr.2 hx (by omega) (by omega) (min (hN G q) 13) 1 zF s2 _ g w (by omega) (by omega) (by unfold zF; omega) b2 (by rw [List.length_append, List.length_append]; show l.length + 1 + 1 + _ ≤ 200; omega) e5' e6'
  refine ⟨s3, ?_, ?_, f2.trans c3⟩
  · unfold f108_62
    rw [e5, e52, a1, zb0_mk, b1, zb0_mk]
    rcases hx3 with ⟨rfl, rfl⟩ | ⟨h1, rfl⟩
    · have hM0 : hM G 0 = G := by
        unfold hM
        rw [hR_none (by omega), if_pos hG]
      rw [hM0] at e5'
      rw [if_pos (zle (by omega)), f111_eq hG e5', zb1_mk]
      exact c1
    · have hNq : hN G q = q := by
        unfold hN
        rw [if_neg (by omega)]
      rw [hNq] at c1
      rw [if_neg (znle (by omega))]
      exact c1
  · have en : min (hN G q) 13 + (hN G q - 13) = hN G q := by omega
    rw [en, List.append_assoc, List.append_assoc] at c2
    exact c2
theorem f108_eq {s : zS} {F : Int32} {pr : Int} {A G : Nat} {X E : Int} {l : List Int} {g w : Int} (hF : s.1 7 2 = F) (h5 : s.1 7 5 = zi pr) (hp1 : -1 ≤ pr) (hp2 : pr ≤ 1100) (hP : PC s l g w) (hl : l.length ≤ 10) (hA : AL A X G E) (e5 : s.2.1 15 5 = zl A) (e6 : s.1 15 6 = zi X) {q : Nat} (hq : q = (if pr < 0 then 0 else (max pr 1).toNat)) :
    ∃ s', f108 s = some s' ∧ PC s' ((l ++ [48, 120]) ++ (hxD G q ++ hxT G q E)) g (zat F (l ++ [48, 120]).length) ∧ s'.1 15 2 = s.1 15 2 ∧ fr [13, 14, 15] [] s s' := by
  have hq0 : q ≤ 1100 := by
    rw [hq]
    split <;> omega
  obtain ⟨s1, a1, a2, a3⟩ := hP.all (c := 50) (by decide) (by rw [lit_0x]; show l.length + 2 ≤ 1600; omega)
  rw [lit_0x] at a2
  obtain ⟨s2, b1, b2, b3⟩ := a2.mark (F := F) (by rw [a3.f rfl (by decide)]; exact hF)
  have f2 : fr [13, 14] [] s s2 := a3.trans (b3.up rfl rfl)
  have e5' : s2.2.1 15 5 = zl A := by rw [f2.l rfl]; exact e5
  have e6' : s2.1 15 6 = zi X := by rw [f2.f rfl (by decide)]; exact e6
  have e53 : r53 s2 = zi pr := (congrFun (f2.f (a := 7) rfl (by decide)) 5).trans h5
  obtain ⟨s3, E', c1, c2, c3, c4, c5, c6, c7, c8⟩ := f109_eq hA e5' e6'
  have hG := hA.1
  obtain ⟨x3, hx3, hx3'⟩ : ∃ x3 : Int, ((q = 0 ∧ x3 = -1) ∨ (1 ≤ q ∧ x3 = q)) ∧ x3 = (if pr = 0 then 1 else pr) := by
    refine ⟨_, ?_, rfl⟩
    rw [hq]
    by_cases u : pr < 0
    · rw [if_pos u, if_neg (by omega)]
      omega
    · rw [if_neg u]
      split <;> omega
  obtain ⟨x4, hx4, hx4'⟩ : ∃ x4 : Int, (x4 = 0 ∨ x4 = 1) ∧ ((A = 0 ∧ x4 = 1) ∨ (A ≠ 0 ∧ x4 = 0)) := by
    by_cases u : A = 0
    · exact ⟨1, .inr rfl, .inl ⟨u, rfl⟩⟩
    · exact ⟨0, .inl rfl, .inr ⟨u, rfl⟩⟩
  have hAG : A = 0 ↔ G = 0 := by
    obtain ⟨_, _, _, _, _, _, j, h7, _⟩ := hA
    constructor
    · intro u
      rw [h7, u, Nat.zero_mul]
    · intro u
      have g1 : 1 ≤ 2 ^ j := Nat.pow_pos (by decide)
      have g2 : A * 1 ≤ A * 2 ^ j := Nat.mul_le_mul_left _ g1
      omega
  have hlen : (l ++ [48, 120]).length = l.length + 2 := by rw [List.length_append]; rfl
  have mid : ∃ s4, f108_41 (zi x3) (zi x4) s2 = f108_62 (zi x3) (zi x4) s4 ∧ s4.2.1 15 5 = zl (hM G q : Nat) ∧ s4.1 15 6 = zi (hE G q E') ∧ s4.1 15 2 = s2.1 15 2 ∧ fr [15] [] s2 s4 := by
    unfold f108_41
    rw [c1, zb0_mk]
    by_cases u : 1 ≤ q ∧ q < 13
    · have hxq : x3 = (q : Int) := by omega
      obtain ⟨s4, d1, d2, d3, d4, d5⟩ := f110_eq (q := q) u.1 u.2 hG c2 c3
      refine ⟨s4, ?_, d2, d3, d4.trans c7, c8.trans d5⟩
      rw [if_neg (znle (by omega)), if_neg (znge (by omega)), hxq, d1, zb0_mk]
    · have hRq : hR G q = G := by
        unfold hR
        rw [if_neg u]
      have hMq : hM G q = G := by
        unfold hM
        rw [hRq, if_pos hG]
      have hEq : hE G q E' = E' := by
        unfold hE
        rw [hRq, if_pos hG]
      refine ⟨s3, ?_, by rw [hMq]; exact c2, by rw [hEq]; exact c3, c7, c8⟩
      by_cases v : q = 0
      · rw [if_pos (zle (by omega))]
      · rw [if_neg (znle (by omega)), if_pos (zge (by omega))]
  obtain ⟨s4, m1, m2, m3, m4, m5⟩ := mid
  obtain ⟨s5, d1, d2, d3⟩ := f108_62_eq (x4 := x4) hG hq0 hx4 c4 c5 hx3 (b2.mv m5 rfl rfl) (by rw [hlen]; omega) m2 m3
  refine ⟨s5, ?_, ?_, ?_, ((f2.up rfl rfl).trans (m5.up rfl rfl)).trans (d3.up rfl rfl)⟩
  · unfold f108
    rw [a1, zb0_mk, b1, zb0_mk, e53]
    have h26 : f108_26 (zi x3) s2 = some s5 := by
      unfold f108_26
      rw [e5']
      rcases hx4' with ⟨u, rfl⟩ | ⟨u, rfl⟩
      · rw [if_neg (by rw [u]; exact not_not_intro rfl), m1]
        exact d1
      · have hAl : A < 9007199254740992 := by
          obtain ⟨h1, _, _, _, _, _, j, h7, _⟩ := hA
          have g1 : 1 ≤ 2 ^ j := Nat.pow_pos (by decide)
          have g2 : A * 1 ≤ A * 2 ^ j := Nat.mul_le_mul_left _ g1
          omega
        rw [if_pos (zlne (by omega)), m1]
        exact d1
    by_cases u : pr = 0
    · rw [if_pos u] at hx3'
      rw [hx3'] at h26
      rw [u, if_neg (not_not_intro rfl)]
      exact h26
    · rw [if_neg u] at hx3'
      rw [hx3'] at h26
      rw [if_pos (zne (by omega))]
      exact h26
  · have ev : (if x4 = 0 then hE G q E' + 52 else 0) = hxV G q E := by
      unfold hxV
      by_cases u : G = 0
      · have := hAG.mpr u
        rw [if_pos u, if_neg (by omega)]
      · have : ¬ A = 0 := fun z => u (hAG.mp z)
        rw [if_neg u, if_pos (by omega), c6 u]
    rw [ev] at d2
    exact d2
  · rw [d3.f rfl (by decide), m4, f2.f rfl (by decide)]
