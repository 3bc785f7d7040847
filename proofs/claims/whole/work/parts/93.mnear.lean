/-! the reference's nearest real -/
theorem t233_82 : ∀ (n : Nat) (s s' : zS), f233_82 32 n s = some s' → s'.1 32 1 ≥ s'.1 32 2 ∨ ¬ s'.1 33 (s'.1 32 1).toNatClampNeg = zi 0 := by
  intro n
  induction n with
  | zero =>
    intro s s' h
    exact absurd (show none = some s' from h) (by intro q; cases q)
  | succ n ih =>
    intro s s' h
    have h : b233_82 32 (f233_82 32 n) s = some s' := h
    unfold b233_82 at h
    by_cases c : s.1 32 1 ≥ s.1 32 2
    · rw [if_pos c] at h
      obtain rfl := Option.some.inj h
      exact .inl c
    · rw [if_neg c] at h
      by_cases c2 : mIx (s.1 32 1) 465
      · rw [if_pos c2] at h
        by_cases c3 : ¬ s.1 (32 + 1) (s.1 32 1).toNatClampNeg = zi 0
        · rw [if_pos c3] at h
          obtain rfl := Option.some.inj h
          exact .inr c3
        · rw [if_neg c3] at h
          exact ih _ _ h
      · rw [if_neg c2] at h
        exact absurd h (by intro q; cases q)
theorem t233_7 : ∀ (n : Nat) (x1 x2 : Int32) (s s' : zS), f233_7 32 n x1 x2 s = some s' → s'.1 32 1 ≥ s'.1 32 2 ∨ ¬ s'.1 33 (s'.1 32 1).toNatClampNeg = zi 0 := by
  intro n
  induction n with
  | zero =>
    intro x1 x2 s s' h
    exact absurd (show none = some s' from h) (by intro q; cases q)
  | succ n ih =>
    intro x1 x2 s s' h
    have h : b233_7 32 (f233_7 32 n) x1 x2 s = some s' := h
    unfold b233_7 at h
    by_cases c : x2 ≥ s.1 32 2
    · rw [if_pos c] at h
      by_cases c2 : x1 ≤ zi 0
      · rw [if_pos c2] at h
        exact t233_82 _ _ _ h
      · rw [if_neg c2] at h
        by_cases c3 : mIx (s.1 32 2) 465
        · rw [if_pos c3] at h
          exact t233_82 _ _ _ h
        · rw [if_neg c3] at h
          exact absurd h (by intro q; cases q)
    · rw [if_neg c] at h
      by_cases c3 : mIx x2 465
      · rw [if_pos c3, if_pos c3, if_pos c3] at h
        exact ih _ _ _ _ h
      · rw [if_neg c3] at h
        exact absurd h (by intro q; cases q)
/-- the highest limb is none -/
def TOP (N a : Nat) : Prop := 43 ≤ a ∨ WW 43 ≤ N
theorem f233_top {s s' : zS} {N a b : Nat} (h : f233 32 s = some s') (hD : DEC s' 32 N a b) (hN : N ≠ 0) : TOP N a := by
  have t := t233_7 _ _ _ _ _ (show f233_7 32 zF (zi 0) (s.1 32 1) s = some s' from h)
  have h3 := hD.2.2.1
  have h4 := hD.2.2.2.1
  rw [hD.1, hD.2.1] at t
  have hab : a < b := by
    rcases Nat.lt_or_ge a b with q | q
    · exact q
    · exfalso
      have hdv := Nat.dvd_trans (WW_dvd q) hD.2.2.2.2.2.2
      have := Nat.le_of_dvd (by omega) hdv
      have := hD.2.2.2.2.2.1
      omega
  rcases t with t | t
  · exact absurd t (znge (by omega))
  · have e : s'.1 33 (zi (a : Int)).toNatClampNeg = zi (lb N a : Nat) := by
      rw [zi_toNat (by omega)]
      exact hD.2.2.2.2.1 a (by omega)
    rw [e] at t
    have hl : lb N a ≠ 0 := fun q => t (by rw [q]; rfl)
    have hle : WW (a + 1) ≤ N := by
      rcases Nat.lt_or_ge N (WW (a + 1)) with q | q
      · exact absurd (lb_small q) hl
      · exact q
    rcases Nat.lt_or_ge a 43 with q | q
    · exact .inr (Nat.le_trans (WW_mono (by omega)) hle)
    · exact .inl q
theorem t232_82 : ∀ (n : Nat) (s s' : zS), f232_82 32 n s = some s' → s'.1 32 1 = s.1 32 1 ∧ s'.1 33 = s.1 33 := by
  intro n
  induction n with
  | zero =>
    intro s s' h
    exact absurd (show none = some s' from h) (by intro q; cases q)
  | succ n ih =>
    intro s s' h
    have h : b232_82 32 (f232_82 32 n) s = some s' := h
    unfold b232_82 at h
    by_cases c : s.1 32 2 ≤ s.1 32 1
    · rw [if_pos c] at h
      obtain rfl := Option.some.inj h
      exact ⟨rfl, rfl⟩
    · rw [if_neg c] at h
      by_cases c2 : mIx (s.1 32 2 - zi 1) 465
      · rw [if_pos c2] at h
        by_cases c3 : ¬ s.1 (32 + 1) (s.1 32 2 - zi 1).toNatClampNeg = zi 0
        · rw [if_pos c3] at h
          obtain rfl := Option.some.inj h
          exact ⟨rfl, rfl⟩
        · rw [if_neg c3] at h
          obtain ⟨a1, a2⟩ := ih _ _ h
          exact ⟨a1, a2⟩
      · rw [if_neg c2] at h
        exact absurd h (by intro q; cases q)
theorem t232_9 : ∀ (n : Nat) (x1 x2 : Int32) (s s' : zS), f232_9 32 n x1 x2 s = some s' → s'.1 32 1 = s.1 32 1 ∨ (s'.1 32 1 = s.1 32 1 - zi 1 ∧ s'.1 33 (s.1 32 1 - zi 1).toNatClampNeg = zi 1) := by
  intro n
  induction n with
  | zero =>
    intro x1 x2 s s' h
    exact absurd (show none = some s' from h) (by intro q; cases q)
  | succ n ih =>
    intro x1 x2 s s' h
    have h : b232_9 32 (f232_9 32 n) x1 x2 s = some s' := h
    unfold b232_9 at h
    by_cases c : x2 < s.1 32 1
    · rw [if_pos c] at h
      by_cases c2 : x1 ≤ zi 0
      · rw [if_pos c2] at h
        exact .inl (t232_82 _ _ _ h).1
      · rw [if_neg c2] at h
        by_cases c3 : mIx (s.1 32 1 - zi 1) 465
        · rw [if_pos c3] at h
          obtain ⟨a1, a2⟩ := t232_82 _ _ _ h
          refine .inr ⟨a1, ?_⟩
          rw [a2]
          have := gB_eq (setI s 32 1 (s.1 32 1 - zi 1)) 33 (s.1 32 1 - zi 1).toNatClampNeg (zi 1)
          exact (congrFun this _).trans (upd_eq _ _ _)
        · rw [if_neg c3] at h
          exact absurd h (by intro q; cases q)
    · rw [if_neg c] at h
      unfold f232_39 at h
      by_cases c3 : mIx x2 465
      · rw [if_pos c3, if_pos c3, if_pos c3] at h
        by_cases c4 : zi 2 * s.1 (32 + 1) x2.toNatClampNeg + x1 < zi 1000000000
        · rw [if_pos c4] at h
          have t := ih _ _ _ _ h
          exact t
        · rw [if_neg c4] at h
          have t := ih _ _ _ _ h
          exact t
      · rw [if_neg c3] at h
        exact absurd h (by intro q; cases q)
theorem f232_top {s s' : zS} {N a b a' b' : Nat} (h : f232 32 s = some s') (hD : DEC s 32 N a b) (ha : 43 ≤ a) (hD' : DEC s' 32 (2 * N) a' b') (hN : 2 * N < WW 43) : 43 ≤ a' := by
  have t := t232_9 _ _ _ _ _ (show f232_9 32 zF (zi 0) (s.1 32 2 - zi 1) s = some s' from h)
  have h3 := hD.2.2.1
  have h4 := hD.2.2.2.1
  have h3' := hD'.2.2.1
  have h4' := hD'.2.2.2.1
  rw [hD.1, hD'.1] at t
  have e1 : zi (a : Int) - zi 1 = zi ((a - 1 : Nat) : Int) := by
    rw [zi_sub]
    exact congrArg zi (by omega)
  rw [e1] at t
  rcases t with t | ⟨t1, t2⟩
  · have := zi_inj (by omega) (by omega) (by omega) (by omega) t
    omega
  · have g1 := zi_inj (by omega) (by omega) (by omega) (by omega) t1
    rw [zi_toNat (by omega), hD'.2.2.2.2.1 (a - 1) (by omega)] at t2
    have hl := lb_lt (2 * N) (a - 1)
    have g2 := zi_inj (by omega) (by omega) (by omega) (by omega) t2
    rcases Nat.lt_or_ge 43 a with q | q
    · omega
    · exfalso
      have ea : a = 43 := by omega
      have : lb (2 * N) (a - 1) = 0 := lb_small (by rw [ea]; exact hN)
      omega
theorem T43 {p : Nat} (hp : p ≤ 53) : 2 ^ p * 10 ^ 3780 ≤ WW 43 := by
  have e1 : WW 43 = WW 44 * 1000000000 := WW_s 43 44 rfl (by omega)
  have e2 : WW 44 = WW 45 * 1000000000 := WW_s 44 45 rfl (by omega)
  have h53 : 2 ^ p ≤ 9007199254740992 := Nat.le_trans (Nat.pow_le_pow_right (by decide) hp) (by decide)
  rw [← WW_45]
  have h1 := Nat.mul_le_mul_right (WW 45) h53
  generalize WW 45 = x at *
  generalize 2 ^ p * x = y at *
  omega
theorem LEN_ge {N T L k : Nat} (hT : 0 < T) (h : LEN (N / T) L) : (k + 1 ≤ L → 2 ^ k * T ≤ N) ∧ (L ≤ k → N < 2 ^ k * T) := by
  constructor
  · intro g
    have h2 := h.2.resolve_left (by omega)
    exact (Nat.le_div_iff_mul_le hT).mp (Nat.le_trans (Nat.pow_le_pow_right (by decide) (by omega)) h2)
  · intro g
    exact (Nat.div_lt_iff_lt_mul hT).mp (Nat.lt_of_lt_of_le h.1 (Nat.pow_le_pow_right (by decide) g))
theorem f211_29_loop {p N0 : Nat} (hp1 : 24 ≤ p) (hp2 : p ≤ 53) {x1 x3 : Int32} : ∀ (d n e : Nat) (s : zS) (N a b : Nat), DEC s 32 N a b → TOP N a → N ≠ 0 → N < 2 ^ (p + d) * 10 ^ 3780 → 10 ^ (d + 1) ∣ N → N * 2 ^ e = N0 → (e = 0 ∨ 2 ^ (p - 1) * 10 ^ 3780 ≤ N) → d < n → e + d ≤ 2000 →
    ∃ (s' : zS) (N' a' b' e' : Nat), f211_29 n x1 (zi p) x3 (zi e) s = f211_59 zF x1 (zi p) x3 (zi e') s' ∧ DEC s' 32 N' a' b' ∧ 43 ≤ a' ∧ N' < 2 ^ p * 10 ^ 3780 ∧ N' * 2 ^ e' = N0 ∧ (e' = 0 ∨ 2 ^ (p - 1) * 10 ^ 3780 ≤ N') ∧ e' ≤ 2000 ∧ fr [32, 33] [] s s' := by
  have hT : 0 < 10 ^ 3780 := p_pos _
  have hT43 := T43 hp2
  have e2p : 2 ^ p = 2 * 2 ^ (p - 1) := by
    rw [Nat.mul_comm, ← Nat.pow_succ]
    exact congrArg (2 ^ ·) (by omega)
  intro d
  induction d with
  | zero =>
    intro n e s N a b hD hTop hN0 hN hdv hv hlow hn he
    obtain ⟨n, rfl⟩ : ∃ k, n = k + 1 := ⟨n - 1, by omega⟩
    rw [Nat.add_zero] at hN
    have ha : 43 ≤ a := by
      rcases hTop with g | g
      · exact g
      · exact absurd (Nat.lt_of_lt_of_le hN hT43) (Nat.not_lt.mpr g)
    obtain ⟨L, l1, l2, l3⟩ := f213_lo hD ha
    have hL : L ≤ p := by
      rcases Nat.lt_or_ge p L with g | g
      · exact absurd hN (Nat.not_lt.mpr ((LEN_ge (k := p) hT l2).1 g))
      · exact g
    refine ⟨s, N, a, b, e, ?_, hD, ha, hN, hv, hlow, by omega, fr.refl⟩
    show b211_29 (f211_29 n) _ _ _ _ _ = _
    unfold b211_29
    rw [l1, zb1_mk, zi_add, if_neg (znge (by omega)), l1, zb1_mk, if_pos (zge (by omega))]
  | succ d ih =>
    intro n e s N a b hD hTop hN0 hN hdv hv hlow hn he
    obtain ⟨n, rfl⟩ : ∃ k, n = k + 1 := ⟨n - 1, by omega⟩
    -- one half more
    have go : 2 ^ p * 10 ^ 3780 ≤ N → ∃ (s' : zS) (N' a' b' e' : Nat), f211_46 (f211_29 n) x1 (zi p) x3 (zi e) s = f211_59 zF x1 (zi p) x3 (zi e') s' ∧ DEC s' 32 N' a' b' ∧ 43 ≤ a' ∧ N' < 2 ^ p * 10 ^ 3780 ∧ N' * 2 ^ e' = N0 ∧ (e' = 0 ∨ 2 ^ (p - 1) * 10 ^ 3780 ≤ N') ∧ e' ≤ 2000 ∧ fr [32, 33] [] s s' := by
      intro hge
      obtain ⟨c, hc⟩ := hdv
      have e10 : 10 ^ (d + 1 + 1) = 2 * (5 * 10 ^ (d + 1)) := by
        rw [Nat.pow_succ]
        omega
      have hN2 : N = 2 * (5 * 10 ^ (d + 1) * c) := by rw [hc, e10, Nat.mul_assoc]
      have hhalf : N / 2 = 5 * 10 ^ (d + 1) * c := by rw [hN2, Nat.mul_div_cancel_left _ (by decide)]
      have hN2' : N = 2 * (N / 2) := by rw [hhalf]; exact hN2
      obtain ⟨s1, a1, b1, x1', x2', x3', x4'⟩ := f233_eq (aa := 32) (.inl rfl) hD (fun q => by
        rw [q, WW_465, Nat.div_one]
        omega)
      have hne : N / 2 ≠ 0 := by omega
      have htop := f233_top x1' x2' hne
      have ee : zi (e : Int) + zi 1 = zi ((e + 1 : Nat) : Int) := zi_add _ _
      have hN' : N / 2 < 2 ^ (p + d) * 10 ^ 3780 := by
        have e1 : 2 ^ (p + (d + 1)) = 2 * 2 ^ (p + d) := by
          rw [← Nat.add_assoc, Nat.pow_succ, Nat.mul_comm]
        rw [e1, Nat.mul_assoc] at hN
        generalize 2 ^ (p + d) * 10 ^ 3780 = y at *
        omega
      have hlow' : 2 ^ (p - 1) * 10 ^ 3780 ≤ N / 2 := by
        rw [e2p, Nat.mul_assoc] at hge
        generalize 2 ^ (p - 1) * 10 ^ 3780 = y at *
        omega
      have hv' : N / 2 * 2 ^ (e + 1) = N0 := by
        rw [← hv, Nat.pow_succ, Nat.mul_comm (2 ^ e) 2, ← Nat.mul_assoc, Nat.mul_comm (N / 2) 2, ← hN2']
      obtain ⟨s', N', a', b', e', y1, y2, y3, y4, y5, y6, y7, y8⟩ := ih n (e + 1) s1 (N / 2) a1 b1 x2' htop hne hN' ⟨5 * c, by rw [hhalf]; ac_rfl⟩ hv' (.inr hlow') (by omega) (by omega)
      refine ⟨s', N', a', b', e', ?_, y2, y3, y4, y5, y6, y7, x4'.trans y8⟩
      unfold f211_46
      rw [x1', zb0_mk, ee]
      exact y1
    show ∃ (s' : zS) (N' a' b' e' : Nat), b211_29 (f211_29 n) _ _ _ _ _ = _ ∧ _
    unfold b211_29
    rcases Nat.lt_or_ge a 43 with ha | ha
    · have l1 := f213_hi hD ha
      rw [l1, zb1_mk, zi_add, if_neg (znge (by omega)), l1, zb1_mk, if_neg (znge (by omega))]
      refine go ?_
      rcases hTop with g | g
      · omega
      · exact Nat.le_trans hT43 g
    · obtain ⟨L, l1, l2, l3⟩ := f213_lo hD ha
      rw [l1, zb1_mk, zi_add]
      by_cases c : p + 1 ≤ L
      · rw [if_pos (zge (by omega))]
        exact go ((LEN_ge hT l2).1 c)
      · rw [if_neg (znge (by omega)), l1, zb1_mk, if_pos (zge (by omega))]
        exact ⟨s, N, a, b, e, rfl, hD, ha, (LEN_ge hT l2).2 (by omega), hv, hlow, by omega, fr.refl⟩
theorem f211_59_loop {p M Z : Nat} (hp1 : 24 ≤ p) (hp2 : p ≤ 53) {lo : Int} (hlo : -1074 ≤ lo) (hZ : 2000 ≤ Z) {x1 : Int32} : ∀ (d n : Nat) (e : Int) (s : zS) (N a b : Nat), (d : Int) = e - lo → d < n → e ≤ 2000 → DEC s 32 N a b → 43 ≤ a → N < 2 ^ p * 10 ^ 3780 → N * 2 ^ (e + Z).toNat = M →
    ∃ (s' : zS) (N' a' b' : Nat) (e' : Int), f211_59 n x1 (zi p) (zi lo) (zi e) s = f211_86 x1 (zi e') s' ∧ DEC s' 32 N' a' b' ∧ 43 ≤ a' ∧ N' < 2 ^ p * 10 ^ 3780 ∧ N' * 2 ^ (e' + Z).toNat = M ∧ (e' = lo ∨ 2 ^ (p - 1) * 10 ^ 3780 ≤ N') ∧ lo ≤ e' ∧ e' ≤ 2000 ∧ fr [32, 33] [] s s' := by
  have hT : 0 < 10 ^ 3780 := p_pos _
  have hT43 := T43 hp2
  have e2p : 2 ^ p = 2 * 2 ^ (p - 1) := by
    rw [Nat.mul_comm, ← Nat.pow_succ]
    exact congrArg (2 ^ ·) (by omega)
  intro d
  induction d with
  | zero =>
    intro n e s N a b hd hn he hD ha hN hv
    obtain ⟨n, rfl⟩ : ∃ k, n = k + 1 := ⟨n - 1, by omega⟩
    obtain ⟨L, l1, l2, l3⟩ := f213_lo hD ha
    refine ⟨s, N, a, b, e, ?_, hD, ha, hN, hv, .inl (by omega), by omega, he, fr.refl⟩
    show b211_59 (f211_59 n) _ _ _ _ _ = _
    unfold b211_59
    rw [l1, zb1_mk]
    by_cases c : p ≤ L
    · rw [if_pos (zge (by omega))]
    · rw [if_neg (znge (by omega)), if_pos (zle (by omega))]
  | succ d ih =>
    intro n e s N a b hd hn he hD ha hN hv
    obtain ⟨n, rfl⟩ : ∃ k, n = k + 1 := ⟨n - 1, by omega⟩
    obtain ⟨L, l1, l2, l3⟩ := f213_lo hD ha
    by_cases c : p ≤ L
    · refine ⟨s, N, a, b, e, ?_, hD, ha, hN, hv, .inr ((LEN_ge hT l2).1 (by omega)), by omega, he, fr.refl⟩
      show b211_59 (f211_59 n) _ _ _ _ _ = _
      unfold b211_59
      rw [l1, zb1_mk, if_pos (zge (by omega))]
    · have hlt : N < 2 ^ (p - 1) * 10 ^ 3780 := (LEN_ge hT l2).2 (by omega)
      have h2N : 2 * N < 2 ^ p * 10 ^ 3780 := by
        rw [e2p, Nat.mul_assoc]
        exact Nat.mul_lt_mul_of_pos_left hlt (by decide)
      have h2N43 : 2 * N < WW 43 := Nat.lt_of_lt_of_le h2N hT43
      obtain ⟨s1, a1, b1, x1', x2', x3', x4'⟩ := f232_eq (aa := 32) (.inl rfl) hD (Nat.lt_of_lt_of_le h2N43 (WW_mono (by omega)))
      have ha1 := f232_top x1' hD ha x2' h2N43
      have ee : zi e + zi (-1) = zi (e - 1) := by rw [zi_add]; rfl
      have hv' : 2 * N * 2 ^ (e - 1 + Z).toNat = M := by
        rw [← hv]
        have e1 : (e + Z).toNat = (e - 1 + Z).toNat + 1 := by omega
        rw [e1, Nat.pow_succ]
        ac_rfl
      obtain ⟨s', N', a', b', e', y1, y2, y3, y4, y5, y6, y7, y8, y9⟩ := ih n (e - 1) s1 (2 * N) a1 b1 (by omega) (by omega) (by omega) x2' ha1 h2N hv'
      refine ⟨s', N', a', b', e', ?_, y2, y3, y4, y5, y6, y7, y8, x4'.trans y9⟩
      show b211_59 (f211_59 n) _ _ _ _ _ = _
      unfold b211_59
      rw [l1, zb1_mk, if_neg (znge (by omega)), if_neg (znle (by omega)), x1', zb0_mk, ee]
      exact y1
theorem f211_86_eq {s : zS} {N a b : Nat} (hD : DEC s 32 N a b) (ha : 43 ≤ a) (x1 x4 : Int32) : f211_86 x1 x4 s = f211_166 x1 x4 (zl ((near N (10 ^ 3780) : Nat) : Int)) s := by
  have hN : N < WW 43 := Nat.lt_of_lt_of_le hD.2.2.2.2.2.1 (WW_mono ha)
  obtain ⟨w1, w2⟩ := whole_lb hN
  have hd := dgN_lt N (-1)
  have h235 := f235_eq hD (p := -1) (by omega) (by omega)
  have h239 := f239_eq hD (q := -1) (by omega) (by omega)
  have hnear := near_dig (N := N) (q := 0) (by omega) (B := N / 10 ^ 3780) rfl
  have e0 : (3780 + (0 : Int)).toNat = 3780 := rfl
  have e1 : (0 : Int) - 1 = -1 := rfl
  have e2 : dgN N 0 % 2 = N / 10 ^ 3780 % 2 := by
    unfold dgN
    rw [if_neg (by omega), e0]
    generalize N / 10 ^ 3780 = v
    omega
  rw [e0, e1, e2] at hnear
  unfold f211_86
  rw [f214_eq hD hN, zb1_mk, h235, zb1_mk]
  have ep1 : zl ((N / 10 ^ 3780 : Nat) : Int) + zl 1 = zl ((N / 10 ^ 3780 + 1 : Nat) : Int) := zl_add _ _
  have ea : zl ((N / 10 ^ 3780 : Nat) : Int) &&& zl 1 = zl ((N / 10 ^ 3780 % 2 : Nat) : Int) := land1 _
  have h109 : ∀ y0, f211_109 x1 x4 (zl ((N / 10 ^ 3780 : Nat) : Int)) y0 s = if ¬ zi (dgN N (-1) : Nat) = zi 5 then f211_139 x1 x4 (zl ((N / 10 ^ 3780 : Nat) : Int)) y0 (zi 0) s else if ¬ zi (if N % 10 ^ (3780 + (-1 : Int)).toNat = 0 then 0 else 1) = zi 0 then f211_139 x1 x4 (zl ((N / 10 ^ 3780 : Nat) : Int)) y0 (zi 0) s else f211_139 x1 x4 (zl ((N / 10 ^ 3780 : Nat) : Int)) y0 (zi 1) s := by
    intro y0
    unfold f211_109
    rw [h235, zb1_mk, h239, zb1_mk]
  have hq : N / 10 ^ 3780 % 2 < 2 := Nat.mod_lt _ (by decide)
  rw [h109, h109, hnear]
  clear h109 hnear h235 h239
  generalize N % 10 ^ (3780 + (-1 : Int)).toNat = r at *
  generalize N / 10 ^ 3780 = v at *
  generalize dgN N (-1) = g at *
  unfold f211_139
  rw [ep1, ea]
  by_cases c1 : g < 5
  · rw [if_pos (zlt (by omega)), if_pos c1, if_pos (zne (by omega)), if_pos rfl]
  · rw [if_neg (znlt (by omega)), if_neg c1]
    have n10 : ¬ zi 1 = zi 0 := zne (by omega)
    by_cases c2 : g = 5
    · rw [if_neg (not_not_intro (zeq (by omega)))]
      by_cases c3 : r = 0
      · rw [if_pos c3, if_neg (not_not_intro rfl), if_neg n10, if_neg n10]
        by_cases c4 : v % 2 = 1
        · rw [if_neg (not_not_intro (zleq (by omega))), if_pos (show g = 5 ∧ r = 0 from ⟨c2, c3⟩), if_pos c4]
        · rw [if_pos (zlne (by omega)), if_pos (show g = 5 ∧ r = 0 from ⟨c2, c3⟩), if_neg c4]
      · rw [if_neg c3, if_pos n10, if_neg n10, if_pos rfl, if_neg (fun q => c3 q.2)]
    · rw [if_pos (zne (by omega)), if_neg n10, if_pos rfl, if_neg (fun q => c2 q.1)]
theorem f211_to {sm : Int} (hs : sm = 0 ∨ sm = 1) (s : zS) : f211 (zi sm) s = f211_29 zF (zi sm) (zi (pU sm : Nat)) (zi (loU sm)) (zi 0) s := by
  unfold f211 f211_11
  rcases hs with rfl | rfl
  · rw [if_pos rfl, if_pos rfl]
    rfl
  · have n : ¬ zi 1 = zi 0 := zne (by omega)
    rw [if_neg n, if_neg n]
    rfl
theorem near_le {N T p : Nat} (hT : 0 < T) (h : N < 2 ^ p * T) : near N T ≤ 2 ^ p := by
  have h1 : N / T < 2 ^ p := (Nat.div_lt_iff_lt_mul hT).mpr h
  have h2 := near_rng N T
  omega
theorem near_ge {N T k : Nat} (hT : 0 < T) (h : k * T ≤ N) : k ≤ near N T := by
  have h1 : k ≤ N / T := (Nat.le_div_iff_mul_le hT).mpr h
  have h2 := near_rng N T
  omega
theorem k405 : 10 ^ 405 < 2 ^ 1400 := by decide +kernel
theorem f211_eq {s : zS} {N0 a b Z : Nat} {sm : Int} (hs : sm = 0 ∨ sm = 1) (hD : DEC s 32 N0 a b) (hTop : TOP N0 a) (hN0 : N0 ≠ 0) (hN : N0 < 10 ^ 405 * 10 ^ 3780) (hdv : 10 ^ 1401 ∣ N0) (hZ : 2000 ≤ Z) :
    ∃ (v : Nat) (s' : zS), f211 (zi sm) s = some (zl v, s') ∧ fr [32, 33] [] s s' ∧ D6 32 s' ∧ RN Z (N0 * 2 ^ Z) (10 ^ 3780) sm v := by
  rw [f211_to hs]
  have hp : 24 ≤ pU sm ∧ pU sm ≤ 53 := by rcases hs with rfl | rfl <;> decide
  have hlo : loU sm ≤ -149 ∧ -1074 ≤ loU sm := by rcases hs with rfl | rfl <;> decide
  have hT : 0 < 10 ^ 3780 := p_pos _
  have hN' : N0 < 2 ^ (pU sm + 1400) * 10 ^ 3780 := by
    refine Nat.lt_of_lt_of_le hN (Nat.mul_le_mul_right _ (Nat.le_trans (Nat.le_of_lt k405) (Nat.pow_le_pow_right (by decide) (by omega))))
  obtain ⟨s1, N1, a1, b1, e1, x1, x2, x3, x4, x5, x6, x7, x8⟩ := f211_29_loop (N0 := N0) hp.1 hp.2 (x1 := zi sm) (x3 := zi (loU sm)) 1400 zF 0 s N0 a b hD hTop hN0 hN' hdv (by rw [Nat.pow_zero, Nat.mul_one]) (.inl rfl) (by unfold zF; omega) (by omega)
  have ev : N1 * 2 ^ ((e1 : Int) + Z).toNat = N0 * 2 ^ Z := by
    have : ((e1 : Int) + Z).toNat = e1 + Z := by omega
    rw [this, Nat.pow_add, ← Nat.mul_assoc, x5]
  obtain ⟨s2, N2, a2, b2, e2, y1, y2, y3, y4, y5, y6, y7, y8, y9⟩ := f211_59_loop hp.1 hp.2 hlo.2 hZ (x1 := zi sm) ((e1 : Int) - loU sm).toNat zF e1 s1 N1 a1 b1 (by omega) (by unfold zF; omega) (by omega) x2 x3 x4 ev
  have hle := near_le hT y4
  have hge : e2 = loU sm ∨ 2 ^ (pU sm - 1) ≤ near N2 (10 ^ 3780) := y6.imp id (near_ge hT)
  have hpk := f212_eq (u := e2) hs hle y7 (by omega) hge s2
  have z0 : zi 0 = zi ((0 : Nat) : Int) := rfl
  refine ⟨(if hiU sm < e2 then infU sm else (e2 - loU sm).toNat * 2 ^ (pU sm - 1) + near N2 (10 ^ 3780)), s2, ?_, x8.trans y9, y2.D6, e2, ⟨y7, ?_, ?_⟩, ?_⟩
  · rw [z0, x1, y1, f211_86_eq y2 y3]
    unfold f211_166
    rw [hpk, zb1_mk]
  · rw [← y5, ← Nat.mul_assoc]
    exact Nat.mul_lt_mul_of_pos_right y4 (p2_pos _)
  · rcases y6 with g | g
    · exact .inl g
    · right
      rw [← y5, ← Nat.mul_assoc]
      exact Nat.mul_le_mul_right _ g
  · rw [← y5, near_scale (p2_pos _)]
