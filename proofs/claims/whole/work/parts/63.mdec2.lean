/-! the reference's Decimal: twice, half -/
theorem f232_82_loop {aa N a : Nat} (haa : isD aa) : ∀ (d n : Nat) (s : zS) (b : Nat), d + a = b → d < n → DEC s aa N a b →
    ∃ s' b', f232_82 aa n s = some s' ∧ DEC s' aa N a b' ∧ b' ≤ b ∧ fr [aa, aa + 1] [] s s' := by
  intro d
  induction d with
  | zero =>
    intro n s b hd hn h
    obtain ⟨n, rfl⟩ : ∃ k, n = k + 1 := ⟨n - 1, by omega⟩
    have hb := h.2.2.2.1
    refine ⟨s, b, ?_, h, Nat.le_refl _, fr.refl⟩
    show b232_82 aa (f232_82 aa n) _ = _
    unfold b232_82
    rw [h.1, h.2.1, if_pos (zle (by omega))]
  | succ d ih =>
    intro n s b hd hn h
    obtain ⟨n, rfl⟩ : ∃ k, n = k + 1 := ⟨n - 1, by omega⟩
    have hb := h.2.2.2.1
    obtain ⟨b, rfl⟩ : ∃ k, b = k + 1 := ⟨b - 1, by omega⟩
    have e5 : zi ((b + 1 : Nat) : Int) - zi 1 = zi b := by
      rw [zi_sub]
      congr 1
      omega
    have hl := h.2.2.2.2.1 b (by omega)
    by_cases q : lb N b = 0
    · obtain ⟨s', b', a1, a2, a3, a4⟩ := ih n (setI s aa 2 (zi b)) b (by omega) (by omega) ⟨by rw [gI_ne (.inr (by decide))]; exact h.1, gI_eq _ _ _ _, by omega, by omega, fun i hi => by rw [gI_fn (by omega)]; exact h.2.2.2.2.1 i hi, h.2.2.2.2.2.1, WW_strip2 (by omega) h.2.2.2.2.2.2 q⟩
      refine ⟨s', b', ?_, a2, by omega, (fr.refl.sI (.inl (by simp))).trans a4⟩
      show b232_82 aa (f232_82 aa n) _ = _
      unfold b232_82
      rw [h.1, h.2.1, if_neg (znle (by omega)), e5, if_pos (zi_ix (by omega) (by omega) (by omega)), zi_toNat (by omega), hl, q, if_neg (not_not_intro (zeq (by omega)))]
      exact a1
    · have := lb_lt N b
      refine ⟨s, b + 1, ?_, h, Nat.le_refl _, fr.refl⟩
      show b232_82 aa (f232_82 aa n) _ = _
      unfold b232_82
      rw [h.1, h.2.1, if_neg (znle (by omega)), e5, if_pos (zi_ix (by omega) (by omega) (by omega)), zi_toNat (by omega), hl, if_pos (zne (by omega))]
theorem f232_loop {aa N a b : Nat} (haa : isD aa) (hab : a ≤ b) (hb : b ≤ 465) (hN : N < WW a) (hdv : WW b ∣ N) (h2N : 2 * N < WW 0) : ∀ (d k n : Nat) (s : zS), d + a = k → k ≤ b → d < n → s.1 aa 1 = zi a → s.1 aa 2 = zi b → (∀ i, i < 465 → s.1 (aa + 1) i = zi (lb (if k ≤ i then 2 * N else N) i : Nat)) →
    ∃ s' a' b', f232_9 aa n (zi (cy N k : Nat)) (zi (k - 1 : Int)) s = some s' ∧ DEC s' aa (2 * N) a' b' ∧ b' ≤ b ∧ fr [aa, aa + 1] [] s s' := by
  intro d
  induction d with
  | zero =>
    intro k n s hd hkb hn h1 h2 hz
    obtain ⟨n, rfl⟩ : ∃ k, n = k + 1 := ⟨n - 1, by omega⟩
    obtain rfl : k = a := by omega
    have hcy := cy_le N k
    have ecy : cy N k = 2 * N / WW k := by
      unfold cy
      rw [Nat.mod_eq_of_lt hN]
    have hdv2 : WW b ∣ 2 * N := Nat.dvd_mul_left_of_dvd hdv 2
    by_cases q : cy N k = 0
    · have h2k : 2 * N < WW k := by
        rcases Nat.lt_or_ge (2 * N) (WW k) with g | g
        · exact g
        · have := Nat.div_pos g (WW_pos k)
          omega
      obtain ⟨s', b', a1, a2, a3, a4⟩ := f232_82_loop (N := 2 * N) (a := k) haa (b - k) zF s b (by omega) (by unfold zF; omega) ⟨h1, h2, hab, hb, fun i hi => by
        rw [hz i hi]
        by_cases g : k ≤ i
        · rw [if_pos g]
        · rw [if_neg g, lb_below hN (by omega), lb_below h2k (by omega)], h2k, hdv2⟩
      refine ⟨s', k, b', ?_, a2, a3, a4⟩
      show b232_9 aa (f232_9 aa n) _ _ _ = _
      unfold b232_9
      rw [h1, if_pos (zlt (by omega)), q, if_pos (zle (by omega))]
      exact a1
    · have q1 : cy N k = 1 := by omega
      have hk0 : 0 < k := by
        rcases Nat.eq_zero_or_pos k with rfl | g
        · rw [Nat.div_eq_of_lt h2N] at ecy
          omega
        · exact g
      obtain ⟨k, rfl⟩ : ∃ j, k = j + 1 := ⟨k - 1, by omega⟩
      have e5 : zi ((k + 1 : Nat) : Int) - zi 1 = zi k := by
        rw [zi_sub]
        congr 1
        omega
      have h2k : 2 * N < WW k := by
        rw [WW_succ (by omega)]
        omega
      obtain ⟨s', b', a1, a2, a3, a4⟩ := f232_82_loop (N := 2 * N) (a := k) haa (b - k) zF (setB (setI s aa 1 (zi k)) (aa + 1) k (zi 1)) b (by omega) (by unfold zF; omega) ⟨by rw [gB_fn (by omega), gI_eq], by rw [gB_fn (by omega), gI_ne (.inr (by decide))]; exact h2, by omega, hb, fun i hi => by
        rw [gB_eq]
        by_cases e : i = k
        · rw [e, upd_eq]
          have e2 : lb (2 * N) k = 1 := by
            unfold lb
            rw [← ecy, q1]
          rw [e2]
          rfl
        · rw [upd_ne e, gI_fn (by omega), hz i hi]
          by_cases g : k + 1 ≤ i
          · rw [if_pos g]
          · rw [if_neg g, lb_below hN (by omega), lb_below h2k (by omega)], h2k, hdv2⟩
      refine ⟨s', k, b', ?_, a2, a3, ((fr.refl.sI (.inl (by simp))).sB (by simp)).trans a4⟩
      show b232_9 aa (f232_9 aa n) _ _ _ = _
      unfold b232_9
      rw [h1, if_pos (zlt (by omega)), q1, if_neg (znle (by omega)), e5, if_pos (zi_ix (by omega) (by omega) (by omega)), zi_toNat (by omega)]
      exact a1
  | succ d ih =>
    intro k n s hd hkb hn h1 h2 hz
    obtain ⟨n, rfl⟩ : ∃ k, n = k + 1 := ⟨n - 1, by omega⟩
    obtain ⟨j, rfl⟩ : ∃ j, k = j + 1 := ⟨k - 1, by omega⟩
    have e5 : ((j + 1 : Nat) : Int) - 1 = j := by omega
    have hcy := cy_le N (j + 1)
    have hl := lb_lt N j
    obtain ⟨t1, t2⟩ := lb_two (N := N) (i := j) (by omega)
    have hlj := hz j (by omega)
    rw [if_neg (by omega)] at hlj
    have e3 : (zi 2) * zi (lb N j : Nat) + zi (cy N (j + 1) : Nat) = zi (2 * lb N j + cy N (j + 1) : Nat) := by
      rw [zi_mul, zi_add]
      rfl
    obtain ⟨s', a', b', a1, a2, a3, a4⟩ := ih j n (setB s (aa + 1) j (zi (lb (2 * N) j : Nat))) (by omega) (by omega) (by omega) (by rw [gB_fn (by omega)]; exact h1) (by rw [gB_fn (by omega)]; exact h2) (by
      intro i hi
      rw [gB_eq]
      by_cases e : i = j
      · rw [e, upd_eq, if_pos (Nat.le_refl _)]
      · rw [upd_ne e, hz i hi]
        by_cases g : j + 1 ≤ i
        · rw [if_pos g, if_pos (by omega)]
        · rw [if_neg g, if_neg (by omega)])
    refine ⟨s', a', b', ?_, a2, a3, (fr.refl.sB (by simp)).trans a4⟩
    show b232_9 aa (f232_9 aa n) _ _ _ = _
    unfold b232_9
    rw [h1, e5, if_neg (znlt (by omega)), if_pos (zi_ix (by omega) (by omega) (by omega)), zi_toNat (by omega), hlj, e3]
    have e6 : zi (j : Int) + zi (-1) = zi (j - 1 : Int) := by
      rw [zi_add]
      rfl
    by_cases q : 2 * lb N j + cy N (j + 1) < 1000000000
    · have c0 : cy N j = 0 := by omega
      have l0 : lb (2 * N) j = 2 * lb N j + cy N (j + 1) := by omega
      rw [if_pos (zlt (by omega))]
      unfold f232_39
      rw [if_pos (zi_ix (by omega) (by omega) (by omega)), zi_toNat (by omega), zi_mul, zi_sub, e6]
      rw [c0, l0] at a1
      have e7 : ((2 * lb N j + cy N (j + 1) : Nat) : Int) - 0 * 1000000000 = ((2 * lb N j + cy N (j + 1) : Nat) : Int) := by omega
      rw [e7]
      exact a1
    · have c0 : cy N j = 1 := by omega
      have l0 : lb (2 * N) j = 2 * lb N j + cy N (j + 1) - 1000000000 := by omega
      rw [if_neg (znlt (by omega))]
      unfold f232_39
      rw [if_pos (zi_ix (by omega) (by omega) (by omega)), zi_toNat (by omega), zi_mul, zi_sub, e6]
      rw [c0, l0] at a1
      have e7 : ((2 * lb N j + cy N (j + 1) : Nat) : Int) - 1 * 1000000000 = ((2 * lb N j + cy N (j + 1) - 1000000000 : Nat) : Int) := by omega
      rw [e7]
      exact a1
theorem f232_eq {aa N a b : Nat} (haa : isD aa) {s : zS} (h : DEC s aa N a b) (h2N : 2 * N < WW 0) : ∃ s' a' b', f232 aa s = some s' ∧ DEC s' aa (2 * N) a' b' ∧ b' ≤ b ∧ fr [aa, aa + 1] [] s s' := by
  have hb := h.2.2.2.1
  have ha := h.2.2.1
  obtain ⟨s', a', b', a1, a2, a3, a4⟩ := f232_loop haa ha hb h.2.2.2.2.2.1 h.2.2.2.2.2.2 h2N (b - a) b zF s (by omega) (by omega) (by unfold zF; omega) h.1 h.2.1 (by
    intro i hi
    rw [h.2.2.2.2.1 i hi]
    by_cases g : b ≤ i
    · rw [if_pos g, lb_above h.2.2.2.2.2.2 g hi, lb_above (Nat.dvd_mul_left_of_dvd h.2.2.2.2.2.2 2) g hi]
    · rw [if_neg g])
  refine ⟨s', a', b', ?_, a2, a3, a4⟩
  unfold f232
  have e : cy N b = 0 := by
    unfold cy
    rw [Nat.mod_eq_zero_of_dvd h.2.2.2.2.2.2]
    exact Nat.zero_div _
  rw [e] at a1
  rw [h.2.1, zi_sub]
  exact a1
/-! half -/
theorem f233_82_loop {aa N b : Nat} (haa : isD aa) : ∀ (d n : Nat) (s : zS) (a : Nat), d + a = b → d < n → DEC s aa N a b →
    ∃ s' a', f233_82 aa n s = some s' ∧ DEC s' aa N a' b ∧ fr [aa, aa + 1] [] s s' := by
  intro d
  induction d with
  | zero =>
    intro n s a hd hn h
    obtain ⟨n, rfl⟩ : ∃ k, n = k + 1 := ⟨n - 1, by omega⟩
    have hb := h.2.2.2.1
    refine ⟨s, a, ?_, h, fr.refl⟩
    show b233_82 aa (f233_82 aa n) _ = _
    unfold b233_82
    rw [h.1, h.2.1, if_pos (zge (by omega))]
  | succ d ih =>
    intro n s a hd hn h
    obtain ⟨n, rfl⟩ : ∃ k, n = k + 1 := ⟨n - 1, by omega⟩
    have hb := h.2.2.2.1
    have hl := h.2.2.2.2.1 a (by omega)
    by_cases q : lb N a = 0
    · obtain ⟨s', a', a1, a2, a4⟩ := ih n (setI s aa 1 (zi (a + 1 : Nat))) (a + 1) (by omega) (by omega) ⟨gI_eq _ _ _ _, by rw [gI_ne (.inr (by decide))]; exact h.2.1, by omega, by omega, fun i hi => by rw [gI_fn (by omega)]; exact h.2.2.2.2.1 i hi, WW_strip (by omega) h.2.2.2.2.2.1 q, h.2.2.2.2.2.2⟩
      refine ⟨s', a', ?_, a2, (fr.refl.sI (.inl (by simp))).trans a4⟩
      show b233_82 aa (f233_82 aa n) _ = _
      unfold b233_82
      rw [h.1, h.2.1, if_neg (znge (by omega)), if_pos (zi_ix (by omega) (by omega) (by omega)), zi_toNat (by omega), hl, q, if_neg (not_not_intro (zeq (by omega))), zi_add]
      exact a1
    · have := lb_lt N a
      refine ⟨s, a, ?_, h, fr.refl⟩
      show b233_82 aa (f233_82 aa n) _ = _
      unfold b233_82
      rw [h.1, h.2.1, if_neg (znge (by omega)), if_pos (zi_ix (by omega) (by omega) (by omega)), zi_toNat (by omega), hl, if_pos (zne (by omega))]
theorem z_and1 (x : Nat) : zi (x : Int) &&& zi 1 = zi ((x % 2 : Nat) : Int) := zi_and (a := x) (k := 1) (by decide)
theorem half_val {x c : Nat} (hx : x < 1000000000) (hc : c ≤ 1) : zL2I ((zI2L (zi (x : Int)) + zI2L (zi (c : Int)) * zl 1000000000) / zl 2) = zi (((x + c * 1000000000) / 2 : Nat) : Int) := by
  rw [zI2L_zi (by omega) (by omega), zI2L_zi (by omega) (by omega), zl_mul, zl_add]
  have e : (x : Int) + (c : Int) * 1000000000 = ((x + c * 1000000000 : Nat) : Int) := by omega
  rw [e, zl_div (by omega) (by omega) (by omega) (by omega), zL2I_zl]
  congr 1
theorem f233_loop {aa N a b : Nat} (haa : isD aa) (hab : a ≤ b) (hb : b ≤ 465) (hN : N < WW a) (hdv : WW b ∣ N) (hroom : b = 465 → N / WW b % 2 = 0) : ∀ (d k n : Nat) (s : zS), d + k = b → a ≤ k → d < n → s.1 aa 1 = zi a → s.1 aa 2 = zi b → (∀ i, i < 465 → s.1 (aa + 1) i = zi (lb (if i < k then N / 2 else N) i : Nat)) →
    ∃ s' a' b', f233_7 aa n (zi (N / WW k % 2 : Nat)) (zi k) s = some s' ∧ DEC s' aa (N / 2) a' b' ∧ b' ≤ b + N / WW b % 2 ∧ fr [aa, aa + 1] [] s s' := by
  have hN2 : N / 2 < WW a := by omega
  intro d
  induction d with
  | zero =>
    intro k n s hd hak hn h1 h2 hz
    obtain ⟨n, rfl⟩ : ∃ k, n = k + 1 := ⟨n - 1, by omega⟩
    obtain rfl : k = b := by omega
    by_cases q : N / WW k % 2 = 0
    · have hdv2 : WW k ∣ N / 2 := by
        obtain ⟨y, rfl⟩ := hdv
        rw [Nat.mul_div_cancel_left _ (WW_pos k)] at q
        obtain ⟨w, rfl⟩ := Nat.dvd_of_mod_eq_zero q
        exact ⟨w, by rw [Nat.mul_left_comm, Nat.mul_div_cancel_left _ (by decide)]⟩
      obtain ⟨s', a', a1, a2, a4⟩ := f233_82_loop (N := N / 2) (b := k) haa (k - a) zF s a (by omega) (by unfold zF; omega) ⟨h1, h2, hab, hb, fun i hi => by
        rw [hz i hi]
        by_cases g : i < k
        · rw [if_pos g]
        · rw [if_neg g, lb_above hdv (by omega) hi, lb_above hdv2 (by omega) hi], hN2, hdv2⟩
      refine ⟨s', a', k, ?_, a2, by omega, a4⟩
      show b233_7 aa (f233_7 aa n) _ _ _ = _
      unfold b233_7
      rw [h2, if_pos (zge (by omega)), q, if_pos (zle (by omega))]
      exact a1
    · have q1 : N / WW k % 2 = 1 := by omega
      have hk : k < 465 := by
        rcases Nat.lt_or_ge k 465 with g | g
        · exact g
        · exact absurd (hroom (by omega)) (by omega)
      have hdv2 : WW (k + 1) ∣ N / 2 := by
        obtain ⟨y, rfl⟩ := hdv
        have e9 : 1000000000 * y = 2 * (500000000 * y) := by omega
        rw [WW_succ hk, Nat.mul_assoc, e9, Nat.mul_left_comm, Nat.mul_div_cancel_left _ (by decide)]
        exact Nat.dvd_mul_right _ _
      obtain ⟨s', a', a1, a2, a4⟩ := f233_82_loop (N := N / 2) (b := k + 1) haa (k + 1 - a) zF (setI (setB s (aa + 1) k (zi 500000000)) aa 2 (zi (k + 1 : Nat))) a (by omega) (by unfold zF; omega) ⟨by rw [gI_ne (.inr (by decide)), gB_fn (by omega)]; exact h1, gI_eq _ _ _ _, by omega, by omega, fun i hi => by
        rw [gI_fn (by omega), gB_eq]
        by_cases e : i = k
        · rw [e, upd_eq, lb_half hk, lb_above hdv (Nat.le_refl _) hk, q1]
          rfl
        · rw [upd_ne e, hz i hi]
          by_cases g : i < k
          · rw [if_pos g]
          · rw [if_neg g, lb_above hdv (by omega) hi, lb_above hdv2 (by omega) hi], hN2, hdv2⟩
      refine ⟨s', a', k + 1, ?_, a2, by omega, ((fr.refl.sB (by simp)).sI (.inl (by simp))).trans a4⟩
      show b233_7 aa (f233_7 aa n) _ _ _ = _
      unfold b233_7
      rw [h2, if_pos (zge (by omega)), q1, if_neg (znle (by omega)), if_pos (zi_ix (by omega) (by omega) (by omega)), zi_toNat (by omega), zi_add]
      exact a1
  | succ d ih =>
    intro k n s hd hak hn h1 h2 hz
    obtain ⟨n, rfl⟩ : ∃ k, n = k + 1 := ⟨n - 1, by omega⟩
    have hl := lb_lt N k
    have hlk := hz k (by omega)
    rw [if_neg (by omega)] at hlk
    have hv := half_val (x := lb N k) (c := N / WW k % 2) hl (by omega)
    rw [← lb_half (by omega)] at hv
    have hp := z_and1 (lb N k)
    rw [lb_par] at hp
    obtain ⟨s', a', b', a1, a2, a3, a4⟩ := ih (k + 1) n (setB s (aa + 1) k (zi (lb (N / 2) k : Nat))) (by omega) (by omega) (by omega) (by rw [gB_fn (by omega)]; exact h1) (by rw [gB_fn (by omega)]; exact h2) (by
      intro i hi
      rw [gB_eq]
      by_cases e : i = k
      · rw [e, upd_eq, if_pos (by omega)]
      · rw [upd_ne e, hz i hi]
        by_cases g : i < k
        · rw [if_pos g, if_pos (by omega)]
        · rw [if_neg g, if_neg (by omega)])
    refine ⟨s', a', b', ?_, a2, a3, (fr.refl.sB (by simp)).trans a4⟩
    show b233_7 aa (f233_7 aa n) _ _ _ = _
    unfold b233_7
    have hix : mIx (zi (k : Int)) 465 := zi_ix (by omega) (by omega) (by omega)
    rw [h2, if_neg (znge (by omega)), if_pos hix, if_pos hix, if_pos hix, zi_toNat (by omega), hlk, hv, hp, zi_add]
    exact a1
theorem f233_eq {aa N a b : Nat} (haa : isD aa) {s : zS} (h : DEC s aa N a b) (hroom : b = 465 → N / WW b % 2 = 0) : ∃ s' a' b', f233 aa s = some s' ∧ DEC s' aa (N / 2) a' b' ∧ b' ≤ b + N / WW b % 2 ∧ fr [aa, aa + 1] [] s s' := by
  have hb := h.2.2.2.1
  have ha := h.2.2.1
  obtain ⟨s', a', b', a1, a2, a3, a4⟩ := f233_loop haa ha hb h.2.2.2.2.2.1 h.2.2.2.2.2.2 hroom (b - a) a zF s (by omega) (by omega) (by unfold zF; omega) h.1 h.2.1 (by
    intro i hi
    rw [h.2.2.2.2.1 i hi]
    by_cases g : i < a
    · rw [if_pos g, lb_below h.2.2.2.2.2.1 g, lb_below (Nat.lt_of_le_of_lt (Nat.div_le_self _ _) h.2.2.2.2.2.1) g]
    · rw [if_neg g])
  refine ⟨s', a', b', ?_, a2, a3, a4⟩
  unfold f233
  have e : N / WW a % 2 = 0 := by rw [Nat.div_eq_of_lt h.2.2.2.2.2.1]
  rw [e] at a1
  rw [h.1]
  exact a1
