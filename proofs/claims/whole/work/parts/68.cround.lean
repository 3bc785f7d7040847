/-! the class's digits, and how it rounds -/
def CR (s : zS) (R : Nat) (q P : Int) (cnt : Nat) : Prop := s.1 16 4 = zi P ∧ s.1 16 3 = zi cnt ∧ cnt ≤ 860 ∧ (∀ i : Nat, i < cnt → s.1 18 i = zi (rdg R q (P - 1 - i) : Nat)) ∧ (∀ p, p < P - cnt → rdg R q p = 0) ∧ (∀ p, P ≤ p → rdg R q p = 0) ∧ ((R = 0 ∧ P = 1) ∨ (R ≠ 0 ∧ q < P ∧ 10 ^ (P - 1 - q).toNat ≤ R ∧ R < 10 ^ (P - q).toNat)) ∧ -3000 ≤ P ∧ P ≤ 3000
theorem CR.dig {s : zS} {R : Nat} {q P : Int} {cnt : Nat} (h : CR s R q P cnt) {i : Int} (h1 : -100000 ≤ i) (h2 : i ≤ 100000) : f118 (zi i) s = some (zi (rdg R q (P - 1 - i) : Nat), s) := by
  obtain ⟨e1, e2, e3, e4, e5, e6, e7, e8, e9⟩ := h
  unfold f118
  by_cases c1 : i < 0
  · rw [if_pos (zlt (by omega)), e6 _ (by omega)]
    rfl
  · rw [if_neg (znlt (by omega)), e2]
    obtain ⟨j, rfl⟩ : ∃ j : Nat, i = j := ⟨i.toNat, by omega⟩
    by_cases c2 : j < cnt
    · rw [if_pos (zlt (by omega)), if_pos (zi_ix (by omega) (by omega) (by omega)), zi_toNat (by omega), e4 j c2]
    · rw [if_neg (znlt (by omega)), e5 _ (by omega)]
      rfl
theorem CR.mv {A B : List Nat} {s s' : zS} {R : Nat} {q P : Int} {cnt : Nat} (h : fr A B s s') (hD : CR s R q P cnt) (c1 : A.contains 16 = false) (c2 : A.contains 18 = false) : CR s' R q P cnt := by
  unfold CR
  rw [h.f c1 (by decide), h.f c2 (by decide)]
  exact hD
theorem dgN_top {N : Nat} {t p : Int} (h : topN N t) (hp : t < p) : dgN N p = 0 := by
  unfold dgN
  have := h.1
  rw [if_neg (by omega), Nat.div_eq_of_lt (Nat.lt_of_lt_of_le h.2.2 (Nat.pow_le_pow_right (by decide) (by omega)))]
theorem dgN_zero (p : Int) : dgN 0 p = 0 := by
  unfold dgN
  rw [Nat.zero_div]
  split <;> rfl
theorem rdg_zero (q p : Int) : rdg 0 q p = 0 := by
  unfold rdg
  rw [Nat.zero_div]
  split <;> rfl
theorem rdg_hi {R : Nat} {q P p : Int} (h : R < 10 ^ (P - q).toNat) (hp : P ≤ p) : rdg R q p = 0 := by
  unfold rdg
  by_cases c : p < q
  · rw [if_pos c]
  · rw [if_neg c, Nat.div_eq_of_lt (Nat.lt_of_lt_of_le h (Nat.pow_le_pow_right (by decide) (by omega)))]
theorem top_cut {N : Nat} {t q : Int} (h : topN N t) (hq : -3780 ≤ q) (hqt : q ≤ t) : 10 ^ (t - q).toNat ≤ N / 10 ^ (3780 + q).toNat ∧ N / 10 ^ (3780 + q).toNat < 10 ^ (t + 1 - q).toNat := by
  constructor
  · rw [Nat.le_div_iff_mul_le (p_pos _), ← Nat.pow_add]
    have e : (t - q).toNat + (3780 + q).toNat = (3780 + t).toNat := by omega
    rw [e]
    exact h.2.1
  · refine Nat.div_lt_of_lt_mul ?_
    rw [← Nat.pow_add]
    have e : (3780 + q).toNat + (t + 1 - q).toNat = (3781 + t).toNat := by omega
    rw [e]
    exact h.2.2
/-! counting up -/
theorem f120_loop {R : Nat} {P : Int} {m : Nat} (hm : m ≤ 855) (hP1 : -2000 ≤ P) (hP2 : P ≤ 2000) (hR : R < 10 ^ m) (hlo : m = 0 ∨ 10 ^ (m - 1) ≤ R) : ∀ (j n : Nat) (s : zS), j ≤ m → j < n → s.1 16 4 = zi P → s.1 16 3 = zi m → (∀ i : Nat, i < m → s.1 18 i = zi (if i < j then rdg R (P - m) (P - 1 - i) else 0 : Nat)) → R % 10 ^ (m - j) = 10 ^ (m - j) - 1 →
    ∃ s' P' cnt, f120_7 n (zi (j - 1 : Int)) s = some s' ∧ CR s' (R + 1) (P - m) P' cnt ∧ fr [16, 18] [] s s' := by
  intro j
  induction j with
  | zero =>
    intro n s hj hn h4 h3 hz h9
    obtain ⟨n, rfl⟩ : ∃ k, n = k + 1 := ⟨n - 1, by omega⟩
    rw [Nat.sub_zero, Nat.mod_eq_of_lt hR] at h9
    have hp := p_pos m
    have hR1 : R + 1 = 10 ^ m := by omega
    have hdg : ∀ i : Nat, rdg (R + 1) (P - m) (P - i) = if i = 0 then 1 else 0 := by
      intro i
      unfold rdg
      by_cases c : i = 0
      · subst c
        have e2 : (P - ((0 : Nat) : Int) - (P - m)).toNat = m := by omega
        rw [if_neg (by omega), e2, hR1, Nat.div_self hp, if_pos rfl]
      · rw [if_neg c]
        by_cases c2 : P - (i : Int) < P - m
        · rw [if_pos c2]
        · have e2 : (P - (i : Int) - (P - m)).toNat = m - i := by omega
          have e3 : 10 ^ m = 10 ^ (m - i) * (10 ^ (i - 1) * 10) := by
            rw [← Nat.pow_succ, ← Nat.pow_add]
            congr 1
            omega
          rw [if_neg c2, e2, hR1, e3, Nat.mul_div_cancel_left _ (p_pos _), Nat.mul_mod_left]
    have hlt : R + 1 < 10 ^ (P + 1 - (P - m)).toNat := by
      rw [hR1]
      exact Nat.pow_lt_pow_right (by decide) (by omega)
    refine ⟨setI (setI (setB s 18 0 (zi 1)) 16 3 (zi (max m 1 : Nat))) 16 4 (zi (P + 1)), P + 1, max m 1, ?_, ⟨rfl, rfl, by omega, ?_, ?_, fun p hp => rdg_hi hlt hp, .inr ⟨by omega, by omega, ?_, hlt⟩, by omega, by omega⟩, ((fr.refl.sB rfl).sI (.inl rfl)).sI (.inl rfl)⟩
    · show b120_7 (f120_7 n) _ _ = _
      unfold b120_7
      have e1 : max (m : Int) 1 = ((max m 1 : Nat) : Int) := by omega
      rw [if_pos (zlt (by omega)), if_pos (zi_ix (by omega) (by omega) (by omega)), h3, h4, zi_add, r264_max (by omega) (by omega) (by omega) (by omega), e1, zI2B_id (by omega) (by omega)]
      rfl
    · intro i hi
      show upd (s.1 18) 0 (zi 1) i = _
      have e2 : P + 1 - 1 - (i : Int) = P - i := by omega
      rw [e2, hdg]
      by_cases c : i = 0
      · rw [c, upd_eq, if_pos rfl]
        rfl
      · rw [upd_ne c, hz i (by omega), if_neg (by omega), if_neg c]
    · intro p hp
      by_cases c : p < P - m
      · unfold rdg
        rw [if_pos c]
      · have := hdg (P - p).toNat
        have e2 : P - ((P - p).toNat : Int) = p := by omega
        rw [e2, if_neg (by omega)] at this
        exact this
    · have e2 : (P + 1 - 1 - (P - m)).toNat = m := by omega
      rw [e2, hR1]
      exact Nat.le_refl _
  | succ j ih =>
    intro n s hj hn h4 h3 hz h9
    obtain ⟨n, rfl⟩ : ∃ k, n = k + 1 := ⟨n - 1, by omega⟩
    have e5 : ((j + 1 : Nat) : Int) - 1 = j := by omega
    have hzj := hz j (by omega)
    rw [if_pos (by omega)] at hzj
    have hzj' : s.1 18 (zi (j : Int)).toNatClampNeg = zi (rdg R (P - m) (P - 1 - j) : Nat) := by rw [zi_toNat (by omega)]; exact hzj
    have hd := rdg_lt R (P - m) (P - 1 - j)
    have eD : rdg R (P - m) (P - 1 - j) = R / 10 ^ (m - (j + 1)) % 10 := by
      unfold rdg
      rw [if_neg (by omega)]
      congr 3
      omega
    have hix : mIx (zi (j : Int)) 864 := zi_ix (by omega) (by omega) (by omega)
    by_cases c : rdg R (P - m) (P - 1 - j) = 9
    · have h9' := nines_up h9 (by rw [← eD]; exact c)
      have e6 : m - (j + 1) + 1 = m - j := by omega
      rw [e6] at h9'
      obtain ⟨s', P', cnt, a1, a2, a3⟩ := ih n (setB s 18 j (zi 0)) (by omega) (by omega) h4 h3 (fun i hi => by
        show upd (s.1 18) j (zi 0) i = _
        by_cases e : i = j
        · rw [e, upd_eq, if_neg (by omega)]
          rfl
        · rw [upd_ne e, hz i hi]
          by_cases g : i < j
          · rw [if_pos g, if_pos (by omega)]
          · rw [if_neg g, if_neg (by omega)]) h9'
      refine ⟨s', P', cnt, ?_, a2, (fr.refl.sB rfl).trans a3⟩
      show b120_7 (f120_7 n) _ _ = _
      unfold b120_7
      rw [e5, if_neg (znlt (by omega)), if_pos hix, hzj', c, if_pos (zge (by omega)), if_pos hix, zi_toNat (by omega), zi_add, zI2B_id (by omega) (by omega)]
      exact a1
    · have hlt : R + 1 < 10 ^ (P - (P - m)).toNat := by
        have e6 : (P - (P - (m : Int))).toNat = m := by omega
        rw [e6]
        have hne := nines_hi (f := m) h9 (by omega) (by rw [← eD]; exact c)
        rw [Nat.div_eq_of_lt hR] at hne
        exact pow_gt hne (p_pos _)
      refine ⟨setB s 18 j (zi (rdg R (P - m) (P - 1 - j) + 1 : Nat)), P, m, ?_, ⟨h4, h3, by omega, ?_, ?_, fun p hp => rdg_hi hlt hp, .inr ⟨by omega, by omega, ?_, hlt⟩, by omega, by omega⟩, fr.refl.sB rfl⟩
      · show b120_7 (f120_7 n) _ _ = _
        unfold b120_7
        rw [e5, if_neg (znlt (by omega)), if_pos hix, hzj', if_neg (znge (by omega)), if_pos hix, if_pos hix, zi_toNat (by omega), zi_add, zI2B_2, zI2B_id (by omega) (by omega)]
        rfl
      · intro i hi
        show upd (s.1 18) j (zi (rdg R (P - m) (P - 1 - j) + 1 : Nat)) i = _
        by_cases e : i = j
        · rw [e, upd_eq]
          congr 2
          rw [eD]
          rw [eD] at c
          unfold rdg
          rw [if_neg (by omega)]
          have e6 : (P - 1 - (j : Int) - (P - m)).toNat = m - (j + 1) := by omega
          rw [e6, nines_at h9]
          omega
        · rw [upd_ne e, hz i hi]
          congr 2
          by_cases g : i < j + 1
          · rw [if_pos g]
            unfold rdg
            rw [if_neg (by omega), if_neg (by omega), nines_hi h9 (by omega) (by rw [← eD]; exact c)]
          · rw [if_neg g]
            unfold rdg
            rw [if_neg (by omega), nines_lo h9 (by omega)]
      · intro p hp
        unfold rdg
        rw [if_pos hp]
      · have e6 : (P - 1 - (P - (m : Int))).toNat = m - 1 := by omega
        rw [e6]
        exact Nat.le_trans (hlo.resolve_left (by omega)) (Nat.le_succ _)
/-! round -/
theorem f119_eq {s : zS} {N : Nat} {P : Int} {cnt : Nat} (h : CD s N P cnt) {n : Int} (hn1 : -3000 ≤ n) (hn2 : n ≤ 3000) (hq : -3780 ≤ P - n) (hn0 : N = 0 → 0 ≤ n) : ∃ s' P' cnt', f119 (zi n) s = some s' ∧ CR s' (rnd N (P - n)) (P - n) P' cnt' ∧ fr [16, 18] [] s s' := by
  obtain ⟨e1, e2, e3, e4, e5, e6, e7, e8⟩ := h
  unfold f119
  rw [e2]
  by_cases c1 : n < cnt
  · rw [if_pos (zlt (by omega))]
    obtain ⟨ht, hc1⟩ : topN N (P - 1) ∧ 1 ≤ cnt := by
      rcases e6 with g | g
      · have := hn0 g.1
        omega
      · exact g
    by_cases c2 : n < 0
    · have hR : rnd N (P - n) = 0 := by
        unfold rnd
        rw [dgN_top ht (by omega), if_pos (by decide), Nat.div_eq_of_lt (Nat.lt_of_lt_of_le ht.2.2 (Nat.pow_le_pow_right (by decide) (by omega)))]
      rw [if_pos (zlt (by omega)), hR]
      unfold f119_28
      have e0 : max n 0 = 0 := by omega
      rw [if_pos rfl, r264_max (by omega) (by omega) (by omega) (by omega), e0, if_neg (not_not_intro rfl)]
      exact ⟨_, 1, 0, rfl, ⟨rfl, rfl, by omega, fun i hi => by omega, fun p _ => rdg_zero _ _, fun p _ => rdg_zero _ _, .inl ⟨rfl, rfl⟩, by omega, by omega⟩, (fr.refl.sI (.inl rfl)).sI (.inl rfl)⟩
    · obtain ⟨m, rfl⟩ : ∃ m : Nat, n = m := ⟨n.toNat, by omega⟩
      have e9 : P - 1 - (m : Int) = P - m - 1 := by omega
      have hd := dgN_lt N (P - m - 1)
      have hcut : ∀ i : Nat, i < m → rdg (N / 10 ^ (3780 + (P - (m : Int))).toNat) (P - m) (P - 1 - i) = dgN N (P - 1 - i) := fun i hi => rdg_cut hq (by omega)
      have hR0 : N / 10 ^ (3780 + (P - (m : Int))).toNat < 10 ^ m := by
        refine Nat.div_lt_of_lt_mul ?_
        rw [← Nat.pow_add]
        refine Nat.lt_of_lt_of_le ht.2.2 (Nat.pow_le_pow_right (by decide) (by omega))
      have hlo : m = 0 ∨ 10 ^ (m - 1) ≤ N / 10 ^ (3780 + (P - (m : Int))).toNat := by
        by_cases g : m = 0
        · exact .inl g
        · have := (top_cut (q := P - m) ht hq (by omega)).1
          have e0 : (P - 1 - (P - (m : Int))).toNat = m - 1 := by omega
          rw [e0] at this
          exact .inr this
      rw [if_neg (znlt (by omega)), if_pos (zi_ix (by omega) (by omega) (by omega)), zi_toNat (by omega), e4 m (by omega), e9]
      have e0 : max (m : Int) 0 = m := by omega
      by_cases c3 : dgN N (P - m - 1) < 5
      · have hR : rnd N (P - m) = N / 10 ^ (3780 + (P - (m : Int))).toNat := by
          unfold rnd
          rw [if_pos c3]
          rfl
        rw [if_pos (zlt (by omega)), hR]
        unfold f119_28
        rw [if_pos rfl, r264_max (by omega) (by omega) (by omega) (by omega), e0]
        by_cases c4 : m = 0
        · subst c4
          rw [Nat.pow_zero] at hR0
          rw [Nat.lt_one_iff.mp hR0, if_neg (not_not_intro (zeq (by omega)))]
          exact ⟨_, 1, 0, rfl, ⟨rfl, rfl, by omega, fun i hi => by omega, fun p _ => rdg_zero _ _, fun p _ => rdg_zero _ _, .inl ⟨rfl, rfl⟩, by omega, by omega⟩, (fr.refl.sI (.inl rfl)).sI (.inl rfl)⟩
        · rw [if_pos (zne (by omega))]
          have hlt : N / 10 ^ (3780 + (P - (m : Int))).toNat < 10 ^ (P - (P - (m : Int))).toNat := by
            have e0 : (P - (P - (m : Int))).toNat = m := by omega
            rw [e0]
            exact hR0
          have hge := hlo.resolve_left c4
          refine ⟨_, P, m, rfl, ⟨e1, rfl, by omega, fun i hi => ?_, fun p hp => ?_, fun p hp => rdg_hi hlt hp, .inr ⟨?_, by omega, ?_, hlt⟩, by omega, by omega⟩, fr.refl.sI (.inl rfl)⟩
          · show s.1 18 i = _
            rw [e4 i (by omega), hcut i hi]
          · unfold rdg
            rw [if_pos hp]
          · have := p_pos (m - 1)
            omega
          · have e0 : (P - 1 - (P - (m : Int))).toNat = m - 1 := by omega
            rw [e0]
            exact hge
      · have hR : rnd N (P - m) = N / 10 ^ (3780 + (P - (m : Int))).toNat + 1 := by
          unfold rnd
          rw [if_neg c3]
        rw [if_neg (znlt (by omega)), hR]
        unfold f119_28
        rw [if_neg (show ¬ zi 1 = zi 0 from zne (by omega)), r264_max (by omega) (by omega) (by omega) (by omega), e0]
        obtain ⟨s', P', cnt', a1, a2, a3⟩ := f120_loop (P := P) (m := m) (by omega) e7 e8 hR0 hlo m zF (setI s 16 3 (zi m)) (Nat.le_refl _) (by unfold zF; omega) e1 rfl (fun i hi => by
          show s.1 18 i = _
          rw [e4 i (by omega), if_pos hi, hcut i hi]) (by rw [Nat.sub_self, Nat.pow_zero, Nat.mod_one])
        refine ⟨s', P', cnt', ?_, a2, (fr.refl.sI (.inl rfl)).trans a3⟩
        have e9 : f120 (setI s 16 3 (zi m)) = some s' := by
          unfold f120
          have e10 : (setI s 16 3 (zi m)).1 16 3 = zi m := rfl
          rw [e10, zi_sub]
          exact a1
        rw [e9]
        rfl
  · rw [if_neg (znlt (by omega))]
    have hR : rnd N (P - n) = N / 10 ^ (3780 + (P - n)).toNat := by
      unfold rnd
      rw [e5 _ (by omega), if_pos (by decide)]
      rfl
    have hdg : ∀ p, rdg (N / 10 ^ (3780 + (P - n)).toNat) (P - n) p = dgN N p := by
      intro p
      by_cases g : p < P - n
      · rw [e5 p (by omega)]
        unfold rdg
        rw [if_pos g]
      · exact rdg_cut hq (by omega)
    rw [hR]
    refine ⟨s, P, cnt, rfl, ⟨e1, e2, by omega, fun i hi => ?_, fun p hp => ?_, fun p hp => ?_, ?_, by omega, by omega⟩, fr.refl⟩
    · rw [hdg, e4 i hi]
    · rw [hdg, e5 p hp]
    · rw [hdg]
      rcases e6 with ⟨rfl, _⟩ | ⟨g, _⟩
      · exact dgN_zero _
      · exact dgN_top g (by omega)
    · rcases e6 with ⟨rfl, _, g⟩ | ⟨g, g2⟩
      · rw [Nat.zero_div]
        exact .inl ⟨rfl, g⟩
      · obtain ⟨k1, k2⟩ := top_cut (q := P - n) g hq (by omega)
        have e10 : (P - 1 + 1 - (P - n)).toNat = (P - (P - n)).toNat := by omega
        rw [e10] at k2
        refine .inr ⟨?_, by omega, k1, k2⟩
        have := p_pos (P - 1 - (P - n)).toNat
        omega
