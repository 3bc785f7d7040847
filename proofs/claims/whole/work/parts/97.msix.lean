/-! the reference reads sixteens -/
theorem f206_eq {c : Int} (h1 : -1 ≤ c) (h2 : c ≤ 127) (s : zS) : f206 (zi c) s = some (zi (dgc 16 c), s) := by
  unfold f206 f206_36 dgc
  rw [r196_eq h1 (by omega)]
  by_cases c1 : 48 ≤ c ∧ c ≤ 57
  · rw [if_pos c1, if_neg (zne (by omega)), if_pos c1, zi_sub]
  · rw [if_neg c1, if_pos rfl, if_neg c1]
    have hup : ¬ (97 ≤ c ∧ c ≤ 102) → (if zi c < zi 65 then some (zi (-1), s) else if zi c > zi 70 then some (zi (-1), s) else some (zi c - zi 65 + zi 10, s)) = some (zi (if (16 : Int) = 16 ∧ 97 ≤ c ∧ c ≤ 102 then c - 87 else if (16 : Int) = 16 ∧ 65 ≤ c ∧ c ≤ 70 then c - 55 else -1), s) := by
      intro q
      rw [if_neg (show ¬ ((16 : Int) = 16 ∧ 97 ≤ c ∧ c ≤ 102) from fun g => q g.2)]
      by_cases c2 : c < 65
      · rw [if_pos (show zi c < zi 65 from zlt (by omega)), if_neg (show ¬ ((16 : Int) = 16 ∧ 65 ≤ c ∧ c ≤ 70) by omega)]
      · rw [if_neg (show ¬ zi c < zi 65 from znlt (by omega))]
        by_cases c3 : 70 < c
        · rw [if_pos (show zi c > zi 70 from zgt (by omega)), if_neg (show ¬ ((16 : Int) = 16 ∧ 65 ≤ c ∧ c ≤ 70) by omega)]
        · rw [if_neg (show ¬ zi c > zi 70 from zngt (by omega)), if_pos (show (16 : Int) = 16 ∧ 65 ≤ c ∧ c ≤ 70 from ⟨rfl, by omega⟩), zi_sub, zi_add]
          exact congrArg (fun y => some (zi y, s)) (by omega)
    by_cases c2 : c < 97
    · rw [if_pos (show zi c < zi 97 from zlt (by omega))]
      exact hup (by omega)
    · rw [if_neg (show ¬ zi c < zi 97 from znlt (by omega))]
      by_cases c3 : 102 < c
      · rw [if_pos (show zi c > zi 102 from zgt (by omega))]
        exact hup (by omega)
      · rw [if_neg (show ¬ zi c > zi 102 from zngt (by omega)), if_pos (show (16 : Int) = 16 ∧ 97 ≤ c ∧ c ≤ 102 from ⟨rfl, by omega⟩), zi_sub, zi_add]
        exact congrArg (fun y => some (zi y, s)) (by omega)
/-- D as a short number and what was dropped -/
def SIX (D M j R : Nat) : Prop := D = M * 16 ^ j + R ∧ R < 16 ^ j ∧ M < 1152921504606846976 ∧ (j = 0 ∨ 72057594037927936 ≤ M)
theorem SIX.keep {D M j R dg : Nat} (h : SIX D M j R) (hd : dg < 16) (hM : M < 72057594037927936) : j = 0 ∧ R = 0 ∧ SIX (16 * D + dg) (16 * M + dg) 0 0 := by
  obtain ⟨h1, h2, h3, h4⟩ := h
  have hj : j = 0 := by omega
  subst hj
  rw [Nat.pow_zero] at h1 h2
  refine ⟨rfl, by omega, ?_, by decide, by omega, .inl rfl⟩
  rw [Nat.pow_zero]
  omega
theorem SIX.drop {D M j R dg : Nat} (h : SIX D M j R) (hd : dg < 16) (hM : 72057594037927936 ≤ M) : SIX (16 * D + dg) M (j + 1) (16 * R + dg) := by
  obtain ⟨h1, h2, h3, h4⟩ := h
  have e : 16 ^ (j + 1) = 16 * 16 ^ j := by rw [Nat.pow_succ, Nat.mul_comm]
  refine ⟨?_, ?_, h3, .inr hM⟩
  · rw [h1, e, Nat.mul_add, Nat.mul_left_comm]
    omega
  · rw [e]
    omega
theorem rflag (R dg : Nat) : (zi (if R = 0 then 0 else 1) ||| zi (if dg = 0 then 0 else 1)) = zi (if 16 * R + dg = 0 then 0 else 1) := by
  rw [or01 (by split <;> omega) (by split <;> omega)]
  by_cases c1 : R = 0
  · by_cases c2 : dg = 0
    · rw [if_pos c1, if_pos c2, if_pos ⟨rfl, rfl⟩, if_pos (by omega)]
    · rw [if_pos c1, if_neg c2, if_neg (by omega), if_neg (by omega)]
  · rw [if_neg c1, if_neg (by omega), if_neg (by omega)]
theorem f215_21_loop {l : List Int} {p q0 e K : Nat} (hS : STP 16 l e q0 K) (hq : q0 ≤ e) {x1 : Int32} : ∀ (d k n : Nat) (s : zS) (M j R : Nat), d + k = K → d < n → MT s l p e → SIX (VV 16 l q0 k) M j R → j ≤ k →
    ∃ M' j' R' : Nat, f215_21 n x1 (zi ((q0 + k : Nat) : Int)) (zi (ND l q0 k : Nat)) (zi (4 * (j : Int) - 4 * NB l q0 k)) (zi (PT l q0 k : Nat)) (zi (if R = 0 then 0 else 1)) (zl M) s = f215_139 x1 (zi ((q0 + K : Nat) : Int)) (zi (ND l q0 K : Nat)) (zi (4 * (j' : Int) - 4 * NB l q0 K)) (zi (if R' = 0 then 0 else 1)) (zl M') s ∧ SIX (VV 16 l q0 K) M' j' R' ∧ j' ≤ K := by
  have hle := hS.le hq
  intro d
  induction d with
  | zero =>
    intro k n s M j R hd hn hM hX hj
    obtain ⟨n, rfl⟩ : ∃ k, n = k + 1 := ⟨n - 1, by omega⟩
    obtain rfl : k = K := by omega
    have h5 := hM.2.2.2.2.1
    have h6 := hM.2.2.2.2.2
    have hr := ch_rng hM.2.1 e (q0 + k)
    have hno := hS.2
    have hdr := dgc_rng (b := 16) (c := ch l e (q0 + k)) (.inr rfl)
    have nodig : dgc 16 (ch l e (q0 + k)) < 0 := by
      rcases Int.lt_or_le (dgc 16 (ch l e (q0 + k))) 0 with q | q
      · exact q
      · exfalso
        have hin : q0 + k < e := by
          rcases Nat.lt_or_ge (q0 + k) e with w | w
          · exact w
          · have hc : ch l e (q0 + k) = -1 := if_neg (by omega)
            rw [hc, dgc_m1] at q
            omega
        have hc : ch l e (q0 + k) = atl l (q0 + k : Nat) := if_pos hin
        exact hno ⟨hin, .inl (by rw [← hc]; exact q)⟩
    refine ⟨M, j, R, ?_, hX, hj⟩
    show b215_21 (f215_21 n) _ _ _ _ _ _ _ _ = _
    unfold b215_21
    rw [f205_eq hM (by omega), zb1_mk, f206_eq hr.1 hr.2, zb1_mk, if_neg (znge (by omega)), f205_eq hM (by omega), zb1_mk]
    by_cases c : ch l e (q0 + k) = 46
    · have hin : q0 + k < e := ch_in (l := l) (by omega)
      have hc : ch l e (q0 + k) = atl l (q0 + k : Nat) := if_pos hin
      have hpt : PT l q0 k ≠ 0 := fun q => hno ⟨hin, .inr ⟨by rw [← hc]; exact c, q⟩⟩
      have hpb := PT_bit l q0 k
      rw [c, if_neg (not_not_intro rfl), if_pos (zne (by omega))]
    · rw [if_pos (zne (by omega))]
  | succ d ih =>
    intro k n s M j R hd hn hM hX hj
    obtain ⟨n, rfl⟩ : ∃ k, n = k + 1 := ⟨n - 1, by omega⟩
    have h5 := hM.2.2.2.2.1
    have h6 := hM.2.2.2.2.2
    have hr := ch_rng hM.2.1 e (q0 + k)
    obtain ⟨hin, hgo⟩ := hS.1 k (by omega)
    have hc : ch l e (q0 + k) = atl l (q0 + k : Nat) := if_pos hin
    have hdr := dgc_rng (b := 16) (c := atl l (q0 + k : Nat)) (.inr rfl)
    have e1 : zi ((q0 + k : Nat) : Int) + zi 1 = zi ((q0 + (k + 1) : Nat) : Int) := zi_add _ _
    have e2 : zi (ND l q0 k : Nat) + zi 1 = zi ((ND l q0 k + 1 : Nat) : Int) := zi_add _ _
    have hpb := PT_bit l q0 k
    have hndk := ND_le l q0 k
    have hnbk := NB_le l q0 k
    have h205 : f205 (zi ((q0 + k : Nat) : Int)) s = some (zi (atl l (q0 + k : Nat)), s) := by rw [← hc]; exact f205_eq hM (by omega)
    rw [hc] at hr
    have h206 := f206_eq hr.1 hr.2 s
    -- one byte on
    have h47 : ∃ M' j' R' : Nat, f215_47 (f215_21 n) x1 (zi ((q0 + k : Nat) : Int)) (zi (ND l q0 k : Nat)) (zi (4 * (j : Int) - 4 * NB l q0 k)) (zi (PT l q0 k : Nat)) (zi (if R = 0 then 0 else 1)) (zl M) s = f215_139 x1 (zi ((q0 + K : Nat) : Int)) (zi (ND l q0 K : Nat)) (zi (4 * (j' : Int) - 4 * NB l q0 K)) (zi (if R' = 0 then 0 else 1)) (zl M') s ∧ SIX (VV 16 l q0 K) M' j' R' ∧ j' ≤ K := by
      unfold f215_47
      rw [h205, zb1_mk, e1, e2, h205, zb1_mk, zb1_mk, h206, zb1_mk]
      by_cases c : atl l (q0 + k : Nat) = 46
      · have n1 : ND l q0 (k + 1) = ND l q0 k := if_pos c
        have n2 : NB l q0 (k + 1) = NB l q0 k := if_pos c
        have n3 : PT l q0 (k + 1) = 1 := if_pos c
        have n4 : VV 16 l q0 (k + 1) = VV 16 l q0 k := if_pos c
        obtain ⟨M', j', R', a1, a2, a3⟩ := ih (k + 1) n s M j R (by omega) (by omega) hM (by rw [n4]; exact hX) (by omega)
        rw [n1, n2, n3] at a1
        refine ⟨M', j', R', ?_, a2, a3⟩
        rw [if_neg (not_not_intro (zeq c))]
        exact a1
      · have hdg : 0 ≤ dgc 16 (atl l (q0 + k : Nat)) := by
          rcases hgo with q | q
          · exact q
          · exact absurd q.1 c
        obtain ⟨dg, hdg'⟩ : ∃ dg : Nat, dgc 16 (atl l (q0 + k : Nat)) = dg := ⟨(dgc 16 (atl l (q0 + k : Nat))).toNat, by omega⟩
        have n1 : ND l q0 (k + 1) = ND l q0 k + 1 := if_neg c
        have n2 : NB l q0 (k + 1) = NB l q0 k + PT l q0 k := if_neg c
        have n3 : PT l q0 (k + 1) = PT l q0 k := if_neg c
        have n4 : VV 16 l q0 (k + 1) = 16 * VV 16 l q0 k + dg := by
          have : VV 16 l q0 (k + 1) = (16 : Int).toNat * VV 16 l q0 k + (dgc 16 (atl l (q0 + k : Nat))).toNat := if_neg c
          rw [this, hdg', Int.toNat_natCast]
          rfl
        have hM60 := hX.2.2.1
        have esh : zshrL (zl (M : Int)) (zi 56) = zl ((M / 72057594037927936 : Nat) : Int) := shrN (t := 56) (by omega) (by decide)
        rw [if_pos (zne (by omega)), esh, hdg']
        by_cases g : M < 72057594037927936
        · obtain ⟨j0, R0, hX'⟩ := hX.keep (dg := dg) (by omega) g
          obtain ⟨M', j', R', a1, a2, a3⟩ := ih (k + 1) n s (16 * M + dg) 0 0 (by omega) (by omega) hM (by rw [n4]; exact hX') (by omega)
          rw [n1, n2, n3] at a1
          refine ⟨M', j', R', ?_, a2, a3⟩
          have em : zl 16 * zl (M : Int) + zI2L (zi (dg : Int)) = zl ((16 * M + dg : Nat) : Int) := by
            rw [zI2L_zi (by omega) (by omega), zl_mul, zl_add]
            rfl
          rw [if_neg (not_not_intro (zleq (by omega))), em]
          subst j0 R0
          rcases hpb with w | w
          · rw [w, if_pos zi0e]
            rw [w] at a1
            exact a1
          · rw [w, if_neg (zne (by omega)), zi_add]
            rw [w] at a1
            have ex : 4 * ((0 : Nat) : Int) - 4 * (NB l q0 k : Int) + -4 = 4 * ((0 : Nat) : Int) - 4 * ((NB l q0 k + 1 : Nat) : Int) := by omega
            rw [ex]
            exact a1
        · have hX' := hX.drop (dg := dg) (by omega) (by omega)
          obtain ⟨M', j', R', a1, a2, a3⟩ := ih (k + 1) n s M (j + 1) (16 * R + dg) (by omega) (by omega) hM (by rw [n4]; exact hX') (by omega)
          rw [n1, n2, n3] at a1
          refine ⟨M', j', R', ?_, a2, a3⟩
          rw [if_pos (zlne (by omega))]
          have h122 : f215_122 (f215_21 n) x1 (zi ((q0 + k : Nat) : Int)) (zi ((ND l q0 k + 1 : Nat) : Int)) (zi (4 * (j : Int) - 4 * NB l q0 k)) (zi (PT l q0 k : Nat)) (zl M) (zi (if R = 0 then 0 else 1)) (zi (if dg = 0 then 0 else 1)) s = f215_139 x1 (zi ((q0 + K : Nat) : Int)) (zi (ND l q0 K : Nat)) (zi (4 * (j' : Int) - 4 * NB l q0 K)) (zi (if R' = 0 then 0 else 1)) (zl M') s := by
            unfold f215_122
            rw [rflag, e1, zi_add]
            rcases hpb with w | w
            · rw [w, if_neg zi00]
              rw [w] at a1
              have ex : 4 * (j : Int) - 4 * (NB l q0 k : Int) + 4 = 4 * ((j + 1 : Nat) : Int) - 4 * ((NB l q0 k + 0 : Nat) : Int) := by omega
              rw [ex]
              exact a1
            · rw [w, if_pos (zne (by omega))]
              rw [w] at a1
              have ex : 4 * (j : Int) - 4 * (NB l q0 k : Int) = 4 * ((j + 1 : Nat) : Int) - 4 * ((NB l q0 k + 1 : Nat) : Int) := by omega
              rw [ex]
              exact a1
          by_cases g2 : atl l (q0 + k : Nat) = 48
          · have hd0 : dg = 0 := by
              rw [g2] at hdg'
              have : dgc 16 48 = 0 := by decide
              omega
            rw [if_pos hd0] at h122
            rw [if_pos (zeq g2)]
            exact h122
          · have hd0 : dg ≠ 0 := by
              intro w
              rw [w] at hdg'
              unfold dgc at hdg'
              split at hdg'
              · omega
              · split at hdg'
                · omega
                · split at hdg' <;> omega
            rw [if_neg hd0] at h122
            rw [if_neg (zne (by omega))]
            exact h122
    show ∃ M' j' R' : Nat, b215_21 (f215_21 n) _ _ _ _ _ _ _ _ = _ ∧ _
    unfold b215_21
    rw [h205, zb1_mk, h206, zb1_mk, h205, zb1_mk]
    by_cases c : atl l (q0 + k : Nat) = 46
    · have hpt : PT l q0 k = 0 := by
        rcases hgo with q | q
        · rw [c, dgc_dot] at q
          omega
        · exact q.2
      have hd46 : dgc 16 (atl l (q0 + k : Nat)) = -1 := by rw [c, dgc_dot]
      rw [hd46, if_neg (znge (by omega)), if_neg (not_not_intro (zeq c))]
      rw [hpt] at h47 ⊢
      rw [if_neg zi00]
      exact h47
    · have hdg : 0 ≤ dgc 16 (atl l (q0 + k : Nat)) := by
        rcases hgo with q | q
        · exact q
        · exact absurd q.1 c
      rw [if_pos (zge (by omega))]
      exact h47
/-! the rounding -/
theorem near_low {K low half mm R : Nat} (hmm : 0 < mm) (hlow : low < 2 * half) (hR : R = 0 ∨ ∃ g, R < g * mm ∧ g ∣ low ∧ g ∣ half) : near ((K * (2 * half) + low) * mm + R) (2 * half * mm) = if half < low ∨ (low = half ∧ (R ≠ 0 ∨ K % 2 = 1)) then K + 1 else K := by
  have hhalf : 0 < half := by omega
  have hQ : 0 < 2 * half * mm := Nat.mul_pos (by omega) hmm
  have hup : ∀ B, low < B → (∀ g, g ∣ low → g ∣ half → g ∣ B) → low * mm + R < B * mm := by
    intro B hB hg
    rcases hR with h | ⟨g, h1, h2, h3⟩
    · rw [h, Nat.add_zero]
      exact Nat.mul_lt_mul_of_pos_right hB hmm
    · have hgB := hg g h2 h3
      have hdv : g ∣ B - low := Nat.dvd_sub hgB h2
      have hle := Nat.le_of_dvd (by omega) hdv
      have : (low + g) * mm ≤ B * mm := Nat.mul_le_mul_right _ (by omega)
      rw [Nat.add_mul] at this
      omega
  have ht := hup (2 * half) hlow (fun g _ h => Nat.dvd_mul_left_of_dvd h 2)
  have en : (K * (2 * half) + low) * mm + R = 2 * half * mm * K + (low * mm + R) := by
    rw [Nat.add_mul, Nat.add_assoc]
    congr 1
    ac_rfl
  have hdiv : ((K * (2 * half) + low) * mm + R) / (2 * half * mm) = K := by
    rw [en, Nat.mul_add_div hQ, Nat.div_eq_of_lt ht, Nat.add_zero]
  have hmod : ((K * (2 * half) + low) * mm + R) % (2 * half * mm) = low * mm + R := by
    rw [en, Nat.mul_add_mod, Nat.mod_eq_of_lt ht]
  unfold near
  rw [hdiv, hmod]
  have e2 : 2 * half * mm = 2 * (half * mm) := Nat.mul_assoc _ _ _
  rw [e2]
  rcases Nat.lt_trichotomy low half with c | c | c
  · have := hup half c (fun g _ h => h)
    rw [if_pos (by omega), if_neg (by omega)]
  · rw [c, if_neg (by omega)]
    by_cases g : R = 0 ∧ K % 2 = 0
    · rw [if_pos ⟨by omega, g.2⟩, if_neg (by omega)]
    · rw [if_neg (by omega), if_pos (by omega)]
  · have : (half + 1) * mm ≤ low * mm := Nat.mul_le_mul_right _ c
    rw [Nat.add_mul, Nat.one_mul] at this
    rw [if_neg (by omega), if_neg (by omega), if_pos (.inl c)]
