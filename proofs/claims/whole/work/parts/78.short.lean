/-! the shortest decimal that reads back the same: the mathematics -/
/-- the nearer of the two multiples beside N, of two equally near the even one -/
def near (N Q : Nat) : Nat := if 2 * (N % Q) < Q then N / Q else if 2 * (N % Q) = Q ∧ N / Q % 2 = 0 then N / Q else N / Q + 1
def inB (N L Q : Nat) (e : Prop) : Prop := L < N / Q * Q ∨ (e ∧ L = N / Q * Q)
def inA (N H Q : Nat) (e : Prop) : Prop := (N / Q + 1) * Q < H ∨ (e ∧ (N / Q + 1) * Q = H)
/-- R is chosen at this unit -/
def PK (N L H Q : Nat) (e : Prop) (R : Nat) : Prop := (N % Q = 0 ∧ R = N / Q) ∨ (N % Q ≠ 0 ∧ ((inB N L Q e ∧ inA N H Q e ∧ R = near N Q) ∨ (inB N L Q e ∧ ¬ inA N H Q e ∧ R = N / Q) ∨ (¬ inB N L Q e ∧ inA N H Q e ∧ R = N / Q + 1)))
/-- nothing is chosen at this unit -/
def NP (N L H Q : Nat) (e : Prop) : Prop := N % Q ≠ 0 ∧ ¬ inB N L Q e ∧ ¬ inA N H Q e
theorem PK.uniq {N L H Q : Nat} {e : Prop} {R R' : Nat} (h : PK N L H Q e R) (g : PK N L H Q e R') : R = R' := by
  rcases h with ⟨h1, h2⟩ | ⟨h1, ⟨h2, h3, h4⟩ | ⟨h2, h3, h4⟩ | ⟨h2, h3, h4⟩⟩ <;> rcases g with ⟨g1, g2⟩ | ⟨g1, ⟨g2, g3, g4⟩ | ⟨g2, g3, g4⟩ | ⟨g2, g3, g4⟩⟩ <;> first | exact absurd h1 g1 | exact absurd g1 h1 | exact absurd h3 g3 | exact absurd g3 h3 | exact absurd h2 g2 | exact absurd g2 h2 | exact h2.trans g2.symm | exact h4.trans g4.symm
theorem PK_NP {N L H Q : Nat} {e : Prop} {R : Nat} (h : PK N L H Q e R) (g : NP N L H Q e) : False := by
  obtain ⟨g1, g2, g3⟩ := g
  rcases h with ⟨h1, h2⟩ | ⟨h1, ⟨h2, h3, h4⟩ | ⟨h2, h3, h4⟩ | ⟨h2, h3, h4⟩⟩
  · exact g1 h1
  · exact g2 h2
  · exact g2 h2
  · exact g3 h3
theorem PK_or (N L H Q : Nat) (e : Prop) : (∃ R, PK N L H Q e R) ∨ NP N L H Q e := by
  by_cases c : N % Q = 0
  · exact .inl ⟨_, .inl ⟨c, rfl⟩⟩
  · by_cases c1 : inB N L Q e <;> by_cases c2 : inA N H Q e
    · exact .inl ⟨_, .inr ⟨c, .inl ⟨c1, c2, rfl⟩⟩⟩
    · exact .inl ⟨_, .inr ⟨c, .inr (.inl ⟨c1, c2, rfl⟩)⟩⟩
    · exact .inl ⟨_, .inr ⟨c, .inr (.inr ⟨c1, c2, rfl⟩)⟩⟩
    · exact .inr ⟨c, c1, c2⟩
theorem near_rng (N Q : Nat) : near N Q = N / Q ∨ near N Q = N / Q + 1 := by
  unfold near
  split
  · exact .inl rfl
  · split
    · exact .inl rfl
    · exact .inr rfl
theorem PK.rng {N L H Q : Nat} {e : Prop} {R : Nat} (h : PK N L H Q e R) : R = N / Q ∨ R = N / Q + 1 := by
  rcases h with ⟨h1, h2⟩ | ⟨h1, ⟨h2, h3, h4⟩ | ⟨h2, h3, h4⟩ | ⟨h2, h3, h4⟩⟩
  · exact .inl h2
  · rw [h4]
    exact near_rng N Q
  · exact .inl h4
  · exact .inr h4
/-- the unit of n digits -/
def qn (T : Int) (n : Nat) : Nat := 10 ^ (3781 + T - n).toNat
theorem qn_pos (T : Int) (n : Nat) : 0 < qn T n := p_pos _
/-- n digits, and these -/
def SR (N L H : Nat) (e : Prop) (T : Int) (n R : Nat) : Prop := 2 ≤ n ∧ n ≤ 17 ∧ PK N L H (qn T n) e R ∧ ∀ m, 2 ≤ m → m < n → NP N L H (qn T m) e
theorem SR.uniq {N L H : Nat} {e : Prop} {T : Int} {n R n' R' : Nat} (h : SR N L H e T n R) (g : SR N L H e T n' R') : n = n' ∧ R = R' := by
  obtain ⟨h1, h2, h3, h4⟩ := h
  obtain ⟨g1, g2, g3, g4⟩ := g
  have e1 : ¬ n < n' := fun c => PK_NP h3 (g4 n h1 c)
  have e2 : ¬ n' < n := fun c => PK_NP g3 (h4 n' g1 c)
  obtain rfl : n = n' := by omega
  exact ⟨rfl, h3.uniq g3⟩
/-- the value and its edges: w is a quarter of the last place -/
def EDG (N L H M w nr : Nat) : Prop := N = M * (4 * w) ∧ H = N + 2 * w ∧ ((nr = 0 ∧ L + 2 * w = N ∧ M < 9007199254740992) ∨ (nr = 1 ∧ L + w = N ∧ M ≤ 4503599627370496)) ∧ 0 < M ∧ 0 < w
theorem qn17 {T : Int} (hT : -1000 ≤ T) : qn T 17 * 10000000000000000 = 10 ^ (3780 + T).toNat := by
  unfold qn
  have e : (10000000000000000 : Nat) = 10 ^ 16 := by decide
  rw [e, ← Nat.pow_add]
  exact congrArg (10 ^ ·) (by omega)
theorem qn_small {N L H M w nr : Nat} (h : EDG N L H M w nr) {T : Int} (hT : topN N T) (hT1 : -1000 ≤ T) : qn T 17 < 4 * w ∧ (nr = 1 → qn T 17 < 2 * w) := by
  obtain ⟨h1, h2, h3, h4, h5⟩ := h
  have e := qn17 hT1
  have h6 := hT.2.1
  rw [← e, h1] at h6
  generalize qn T 17 = Q at *
  constructor
  · apply Classical.byContradiction
    intro c
    have g1 : 4 * w * 10000000000000000 ≤ Q * 10000000000000000 := Nat.mul_le_mul_right _ (by omega)
    have g2 : M * (4 * w) < 10000000000000000 * (4 * w) := Nat.mul_lt_mul_of_pos_right (by omega) (by omega)
    generalize M * (4 * w) = y at *
    omega
  · intro hn
    apply Classical.byContradiction
    intro c
    have g1 : 2 * w * 10000000000000000 ≤ Q * 10000000000000000 := Nat.mul_le_mul_right _ (by omega)
    have g2 : M * (4 * w) ≤ 4503599627370496 * (4 * w) := Nat.mul_le_mul_right _ (by omega)
    generalize M * (4 * w) = y at *
    omega
theorem pk17 {N L H M w nr : Nat} (h : EDG N L H M w nr) {T : Int} (hT : topN N T) (hT1 : -1000 ≤ T) (e : Prop) : PK N L H (qn T 17) e (near N (qn T 17)) := by
  have hs := qn_small h hT hT1
  obtain ⟨h1, h2, h3, h4, h5⟩ := h
  have hdm := Nat.div_add_mod N (qn T 17)
  have hlt := Nat.mod_lt N (qn_pos T 17)
  have hq := qn_pos T 17
  have eb : (N / qn T 17 + 1) * qn T 17 = N / qn T 17 * qn T 17 + qn T 17 := by rw [Nat.add_mul, Nat.one_mul]
  rw [Nat.mul_comm] at hdm
  have kB : 2 * (N % qn T 17) ≤ qn T 17 → inB N L (qn T 17) e := by
    intro g
    left
    generalize N / qn T 17 * qn T 17 = y at *
    generalize N % qn T 17 = r at *
    omega
  have kA : qn T 17 ≤ 2 * (N % qn T 17) → inA N H (qn T 17) e := by
    intro g
    left
    rw [eb]
    generalize N / qn T 17 * qn T 17 = y at *
    generalize N % qn T 17 = r at *
    omega
  by_cases c : N % qn T 17 = 0
  · left
    refine ⟨c, ?_⟩
    unfold near
    rw [c, if_pos (by omega)]
  · right
    refine ⟨c, ?_⟩
    by_cases c1 : inB N L (qn T 17) e <;> by_cases c2 : inA N H (qn T 17) e
    · exact .inl ⟨c1, c2, rfl⟩
    · refine .inr (.inl ⟨c1, c2, ?_⟩)
      unfold near
      rw [if_pos]
      apply Classical.byContradiction
      intro g
      exact c2 (kA (by omega))
    · refine .inr (.inr ⟨c1, c2, ?_⟩)
      have g : ¬ 2 * (N % qn T 17) ≤ qn T 17 := fun g => c1 (kB g)
      unfold near
      rw [if_neg (by omega), if_neg (fun z => g (by omega))]
    · exfalso
      rcases Nat.le_total (2 * (N % qn T 17)) (qn T 17) with g | g
      · exact c1 (kB g)
      · exact c2 (kA g)
theorem SR_ex {N L H M w nr : Nat} (h : EDG N L H M w nr) {T : Int} (hT : topN N T) (hT1 : -1000 ≤ T) (e : Prop) : ∃ n R, SR N L H e T n R := by
  have go : ∀ d n, d + n = 17 → 2 ≤ n → (∀ m, 2 ≤ m → m < n → NP N L H (qn T m) e) → ∃ n R, SR N L H e T n R := by
    intro d
    induction d with
    | zero =>
      intro n hd h2 hm
      have hn : n = 17 := by omega
      subst hn
      exact ⟨17, _, h2, by omega, pk17 h hT hT1 e, hm⟩
    | succ d ih =>
      intro n hd h2 hm
      rcases PK_or N L H (qn T n) e with ⟨R, hR⟩ | hN
      · exact ⟨n, R, h2, by omega, hR, hm⟩
      · refine ih (n + 1) (by omega) (by omega) (fun m m1 m2 => ?_)
        by_cases q : m = n
        · rw [q]
          exact hN
        · exact hm m m1 (by omega)
  exact go 15 2 rfl (by omega) (fun m m1 m2 => by omega)
/-- where the first digit of what is chosen stands -/
theorem SR.top {N L H : Nat} {e : Prop} {T : Int} {n R : Nat} (h : SR N L H e T n R) (hT : topN N T) (hT1 : -1000 ≤ T) : ∃ T', TopR R (T - n + 1) T' ∧ (T' = T ∨ T' = T + 1 ∧ R = 10 ^ n) := by
  obtain ⟨h1, h2, h3, _⟩ := h
  have hc := top_cut hT (q := T - n + 1) (by omega) (by omega)
  have eq : (3780 + (T - n + 1)).toNat = (3781 + T - n).toNat := by omega
  rw [eq] at hc
  have e1 : (T - (T - n + 1)).toNat = n - 1 := by omega
  have e2 : (T + 1 - (T - n + 1)).toNat = n := by omega
  rw [e1, e2] at hc
  have hr := h3.rng
  unfold qn at hr
  generalize N / 10 ^ (3781 + T - n).toNat = B at *
  by_cases c : R < 10 ^ n
  · refine ⟨T, ⟨by omega, ?_, ?_⟩, .inl rfl⟩
    · rw [e1]
      omega
    · have e3 : (T - (T - n + 1) + 1).toNat = n := by omega
      rw [e3]
      exact c
  · have hR : R = 10 ^ n := by omega
    refine ⟨T + 1, ⟨by omega, ?_, ?_⟩, .inr ⟨rfl, hR⟩⟩
    · have e3 : (T + 1 - (T - n + 1)).toNat = n := by omega
      rw [e3]
      omega
    · have e3 : (T + 1 - (T - n + 1) + 1).toNat = n + 1 := by omega
      rw [e3, hR]
      exact Nat.pow_lt_pow_right (by decide) (by omega)
/-- the place of the last digit that is not 0 -/
def LOW (R : Nat) (q T lo : Int) : Prop := (∀ p, p < lo → rdg R q p = 0) ∧ rdg R q lo ≠ 0 ∧ lo ≤ T ∧ q ≤ lo
theorem LOW.uniq {R : Nat} {q T lo lo' : Int} (h : LOW R q T lo) (g : LOW R q T lo') : lo = lo' := by
  have e1 : ¬ lo < lo' := fun c => h.2.1 (g.1 lo c)
  have e2 : ¬ lo' < lo := fun c => g.2.1 (h.1 lo' c)
  omega
theorem TopR.dig {R : Nat} {q T : Int} (h : TopR R q T) : rdg R q T ≠ 0 := by
  obtain ⟨h1, h2, h3⟩ := h
  unfold rdg
  rw [if_neg (by omega)]
  have e : (T - q + 1).toNat = (T - q).toNat + 1 := by omega
  rw [e, Nat.pow_succ] at h3
  have hp := p_pos (T - q).toNat
  have g1 : 1 ≤ R / 10 ^ (T - q).toNat := (Nat.le_div_iff_mul_le hp).mpr (by omega)
  have g2 : R / 10 ^ (T - q).toNat < 10 := Nat.div_lt_of_lt_mul (by omega)
  omega
theorem rdg_low {R : Nat} {q p : Int} (h : p < q) : rdg R q p = 0 := by
  unfold rdg
  rw [if_pos h]
theorem LOW_ex {R : Nat} {q T : Int} (h : TopR R q T) : ∃ lo, LOW R q T lo := by
  have go : ∀ (d : Nat) (p : Int), (d : Int) + p = T → q ≤ p → (∀ r, r < p → rdg R q r = 0) → ∃ lo, LOW R q T lo := by
    intro d
    induction d with
    | zero =>
      intro p hp hq hz
      have : p = T := by omega
      subst this
      exact ⟨p, hz, h.dig, Int.le_refl _, hq⟩
    | succ d ih =>
      intro p hp hq hz
      by_cases c : rdg R q p = 0
      · refine ih (p + 1) (by omega) (by omega) (fun r hr => ?_)
        by_cases g : r = p
        · rw [g]
          exact c
        · exact hz r (by omega)
      · exact ⟨p, hz, c, by omega, hq⟩
  exact go (T - q).toNat q (by have := h.1; omega) (Int.le_refl _) (fun r hr => rdg_low hr)
/-- its text -/
def shX (R : Nat) (q T lo : Int) : List Int := if -3 ≤ T ∧ T < 7 then whl R q T ++ 46 :: dl R q (-1) (max (-lo) 1).toNat else (48 + (rdg R q T : Nat) : Int) :: 46 :: (dl R q (T - 1) (max (T - lo) 1).toNat ++ 69 :: sgv T)
theorem shX_asc (R : Nat) (q T lo : Int) : asc (shX R q T lo) := by
  unfold shX
  split
  · refine asc.append (dl_asc _ _ _ _) ?_
    intro v hv
    rcases List.mem_cons.mp hv with rfl | hv
    · omega
    · exact dl_asc _ _ _ _ v hv
  · have := rdg_lt R q T
    intro v hv
    rcases List.mem_cons.mp hv with rfl | hv
    · omega
    · rcases List.mem_cons.mp hv with rfl | hv
      · omega
      · rcases List.mem_append.mp hv with hv | hv
        · exact dl_asc _ _ _ _ v hv
        · rcases List.mem_cons.mp hv with rfl | hv
          · omega
          · exact sgv_asc _ v hv
theorem shX_len {R : Nat} {q T lo : Int} (h1 : -1000 ≤ T) (h2 : T ≤ 1000) (h3 : lo ≤ T) (h4 : T - 20 ≤ lo) : (shX R q T lo).length ≤ 100 := by
  unfold shX
  have h5 := sgv_len (v := T) (by omega)
  split
  · rw [List.length_append, List.length_cons, dl_len]
    unfold whl
    rw [dl_len]
    omega
  · rw [List.length_cons, List.length_cons, List.length_append, List.length_cons, dl_len]
    omega
