/-! the class's rounding of a long whole number -/
theorem RNT.up {Z n m p c : Nat} {lo hi : Int} {inf b : Nat} (hc : 0 < c) (h : RNT Z n m p lo hi inf b) : RNT Z (n * c) (m * c) p lo hi inf b := by
  obtain ⟨u, ⟨h1, h2, h3⟩, h4⟩ := h
  have e : m * c * 2 ^ (u + Z).toNat = m * 2 ^ (u + Z).toNat * c := Nat.mul_right_comm _ _ _
  refine ⟨u, ⟨h1, ?_, ?_⟩, ?_⟩
  · rw [e, ← Nat.mul_assoc]
    exact Nat.mul_lt_mul_of_pos_right h2 hc
  · rcases h3 with h3 | h3
    · exact .inl h3
    · right
      rw [e, ← Nat.mul_assoc]
      exact Nat.mul_le_mul_right _ h3
  · rw [h4, e, near_scale hc]
theorem RN.cross {Z n m n' m' : Nat} {sm : Int} {b b' : Nat} (hs : sm = 0 ∨ sm = 1) (hm : 0 < m) (hm' : 0 < m') (hZ : 2000 ≤ Z) (h : RN Z n m sm b) (g : RN Z n' m' sm b') (e : n * m' = n' * m) : b = b' := by
  have h1 : RN Z (n * m') (m * m') sm b := RNT.up hm' h
  have g1 : RN Z (n' * m) (m' * m) sm b' := RNT.up hm g
  rw [← e, Nat.mul_comm m' m] at g1
  exact RN.uniq hs (Nat.mul_pos hm hm') hZ h1 g1
theorem RN.le {Z n m : Nat} {sm : Int} {b : Nat} (hs : sm = 0 ∨ sm = 1) (hm : 0 < m) (h : RN Z n m sm b) : b ≤ infU sm := by
  obtain ⟨u, ⟨h1, h2, h3⟩, h4⟩ := h
  have hQ : 0 < m * 2 ^ (u + Z).toNat := Nat.mul_pos hm (p2_pos _)
  have hd : n / (m * 2 ^ (u + Z).toNat) < 2 ^ pU sm := (Nat.div_lt_iff_lt_mul hQ).mpr h2
  have hr := near_rng n (m * 2 ^ (u + Z).toNat)
  generalize near n (m * 2 ^ (u + Z).toNat) = K at *
  generalize n / (m * 2 ^ (u + Z).toNat) = Q at *
  rw [h4]
  by_cases c : hiU sm < u
  · rw [if_pos c]
    exact Nat.le_refl _
  · rw [if_neg c]
    rcases hs with rfl | rfl
    · have e1 : loU 0 = -1074 := rfl
      have e2 : hiU 0 = 971 := rfl
      have e3 : pU 0 = 53 := rfl
      have e4 : infU 0 = 9218868437227405312 := rfl
      rw [e1] at h1
      rw [e2] at c
      rw [e3] at hd
      rw [e1, e3, e4]
      have e5 : 2 ^ (53 - 1) = 4503599627370496 := rfl
      have e6 : 2 ^ 53 = 9007199254740992 := rfl
      rw [e6] at hd
      rw [e5]
      omega
    · have e1 : loU 1 = -149 := rfl
      have e2 : hiU 1 = 104 := rfl
      have e3 : pU 1 = 24 := rfl
      have e4 : infU 1 = 2139095040 := rfl
      rw [e1] at h1
      rw [e2] at c
      rw [e3] at hd
      rw [e1, e3, e4]
      have e5 : 2 ^ (24 - 1) = 8388608 := rfl
      have e6 : 2 ^ 24 = 16777216 := rfl
      rw [e6] at hd
      rw [e5]
      omega
theorem f159_176_eq {fb : Nat} {lo un : Int} {K : Nat} (hfb : fb ≤ 52) (h1 : -1074 ≤ lo) (h2 : lo ≤ un) (h3 : un ≤ 1000) (s : zS) : f159_176 (zi fb) (zi lo) (zi un) (zl K) s = some (zl (((un - lo).toNat * 2 ^ fb + K : Nat) : Int), s) := by
  unfold f159_176
  obtain ⟨j, hj⟩ : ∃ j : Nat, un - lo = j := ⟨(un - lo).toNat, by omega⟩
  rw [zi_sub, hj, zI2L_zi (by omega) (by omega), shlN _ (by omega), zl_add, Int.toNat_natCast]
  rfl
theorem f159_141_eq {s : zS} {B u : Nat} {rho rs : Int} (h : BN s B u rho rs) {fb : Nat} {lo un d y : Int} {K : Nat} (hfb : fb ≤ 52) (h1 : -1074 ≤ lo) (h2 : lo ≤ un) (h3 : un ≤ 1000) (hd1 : -900000 ≤ d) (hd2 : d ≤ 900000) (hy : y = 0 ∨ y = 1) (hK : K < 4611686018427387904) : f159_141 (zi fb) (zi lo) (zi un) (zi d) (zl K) (zi y) s = some (zl (((un - lo).toNat * 2 ^ fb + (if (1 ≤ d ∧ B / 2 ^ (d - 1).toNat % 2 = 1) ∧ (y = 1 ∨ K % 2 = 1) then K + 1 else K) : Nat) : Int), s) := by
  unfold f159_141
  have e1 : zl (K : Int) + zl 1 = zl ((K + 1 : Nat) : Int) := zl_add _ _
  have e2 : zremL (zl (K : Int)) (zl 2) = zl ((K % 2 : Nat) : Int) := by
    rw [zl_rem (by omega) (by omega) (by omega) (by omega)]
    rfl
  rw [zi_sub, f157_eq h (by omega) (by omega), zb1_mk, e1, e2, f159_176_eq hfb h1 h2 h3, f159_176_eq hfb h1 h2 h3]
  by_cases c : d - 1 < 0
  · rw [if_pos c, if_pos rfl, if_neg (fun g => by omega)]
  · rw [if_neg c]
    have hb : B / 2 ^ (d - 1).toNat % 2 < 2 := Nat.mod_lt _ (by decide)
    generalize B / 2 ^ (d - 1).toNat % 2 = q at *
    by_cases c2 : q = 0
    · subst c2
      rw [if_pos (zeq (by omega)), if_neg (fun g => by omega)]
    · rw [if_neg (zne (by omega))]
      rcases hy with rfl | rfl
      · rw [if_neg (not_not_intro rfl)]
        by_cases c3 : K % 2 = 0
        · rw [if_pos (zleq (by omega)), if_neg (fun g => by omega)]
        · rw [if_neg (zlne (by omega)), if_pos ⟨⟨by omega, by omega⟩, .inr (by omega)⟩]
      · rw [if_pos (zne (by omega)), if_pos ⟨⟨by omega, by omega⟩, .inl rfl⟩]
theorem f159_to39 {x sm : Int} (hs : sm = 0 ∨ sm = 1) (s : zS) : f159 (zi x) (zi sm) s = f159_39 (zi x) (zi sm) (zi ((pU sm - 1 : Nat) : Int)) (zi (loU sm)) (zi (hiU sm + (pU sm - 1 : Nat))) s := by
  unfold f159 f159_11 f159_25
  rcases hs with rfl | rfl
  · rw [if_pos rfl, if_pos rfl, if_pos rfl]
    rfl
  · have n : ¬ zi 1 = zi 0 := zne (by omega)
    rw [if_neg n, if_neg n, if_neg n]
    rfl
theorem f159_76_eq {sm : Int} (hs : sm = 0 ∨ sm = 1) {L : Nat} (hL : L ≠ 0) (hL2 : L ≤ 5000) (s : zS) : f159_76 (zi sm) (zi (L : Int)) s = some (zl (infU sm : Nat), s) := by
  unfold f159_76 r149
  rw [if_pos (zne (by omega))]
  rcases hs with rfl | rfl
  · rw [if_pos rfl]
    rfl
  · rw [if_neg (zne (by omega))]
    rfl
/-- the unit of B 2^low -/
theorem RNU_of {Z B m r L p : Nat} {low lo un : Int} (hZ : 0 ≤ low + Z) (hm : r < m) (hL : B < 2 ^ L) (hL0 : L ≠ 0) (hL2 : 2 ^ (L - 1) ≤ B) (hp : 1 ≤ p) (hlo : 0 ≤ lo + Z) (h1 : lo ≤ un) (h2 : low + L ≤ un + p) (h3 : un = lo ∨ un + p = low + L) : RNU Z ((B * m + r) * 2 ^ (low + Z).toNat) m p lo un := by
  have hm0 : 0 < m := by omega
  have hbm : B * m + r < 2 ^ L * m := by
    have : (B + 1) * m ≤ 2 ^ L * m := Nat.mul_le_mul_right _ hL
    rw [Nat.add_mul, Nat.one_mul] at this
    omega
  refine ⟨h1, ?_, ?_⟩
  · have g1 : (B * m + r) * 2 ^ (low + Z).toNat < 2 ^ L * m * 2 ^ (low + Z).toNat := Nat.mul_lt_mul_of_pos_right hbm (p2_pos _)
    refine Nat.lt_of_lt_of_le g1 ?_
    have e1 : 2 ^ L * m * 2 ^ (low + Z).toNat = m * 2 ^ (L + (low + Z).toNat) := by
      rw [Nat.pow_add, Nat.mul_comm (2 ^ L) m, Nat.mul_assoc]
    have e2 : 2 ^ p * (m * 2 ^ (un + Z).toNat) = m * 2 ^ (p + (un + Z).toNat) := by
      rw [Nat.pow_add, Nat.mul_left_comm]
    rw [e1, e2]
    exact Nat.mul_le_mul_left _ (Nat.pow_le_pow_right (by decide) (by omega))
  · rcases h3 with h3 | h3
    · exact .inl h3
    · right
      have e2 : 2 ^ (p - 1) * (m * 2 ^ (un + Z).toNat) = 2 ^ (L - 1) * m * 2 ^ (low + Z).toNat := by
        rw [Nat.mul_left_comm, ← Nat.pow_add, Nat.mul_comm (2 ^ (L - 1)) m, Nat.mul_assoc, ← Nat.pow_add]
        exact congrArg (fun k => m * 2 ^ k) (by omega)
      rw [e2]
      refine Nat.mul_le_mul_right _ ?_
      have := Nat.mul_le_mul_right m hL2
      omega
theorem near_mul {K Q : Nat} (hQ : 0 < Q) : near (K * Q) Q = K := by
  unfold near
  rw [Nat.mul_mod_left, Nat.mul_div_cancel _ hQ, if_pos (by omega)]
theorem f159_eq {s : zS} {B u m r Z : Nat} {rho rs x sm : Int} (h : BN s B u rho rs) (hsm : sm = 0 ∨ sm = 1) (hrs : rs = if r = 0 then 0 else 1) (hm : r < m) (hq : r ≠ 0 → 2 ^ 65 ≤ B) (hx1 : -300000 ≤ x - rho) (hx2 : x - rho ≤ 300000) (hx3 : -1000000 ≤ x) (hx4 : x ≤ 1000000) (hZ : 400000 ≤ Z) :
    ∃ b : Nat, f159 (zi x) (zi sm) s = some (zl b, s) ∧ RN Z ((B * m + r) * 2 ^ (x - rho + Z).toNat) m sm b := by
  obtain ⟨L, l1, ⟨l2, l3⟩, l4⟩ := f156_eq h
  have hu := h.2.1
  have hrho := h.2.2.2.2.1
  have hrs' := h.2.2.2.2.2
  rw [f159_to39 hsm]
  unfold RN
  have hp : 24 ≤ pU sm ∧ pU sm ≤ 53 := by rcases hsm with rfl | rfl <;> decide
  have hlo : loU sm ≤ -149 ∧ -1074 ≤ loU sm := by rcases hsm with rfl | rfl <;> decide
  have hhi : 104 ≤ hiU sm ∧ hiU sm ≤ 971 := by rcases hsm with rfl | rfl <;> decide
  have h76 := fun (L : Nat) (a : L ≠ 0) (b : L ≤ 5000) => f159_76_eq hsm a b s
  have hz0 : RNT Z 0 m (pU sm) (loU sm) (hiU sm) (infU sm) 0 := RN_zero hsm (by omega) (by rw [Nat.zero_mul]; exact Nat.mul_pos (by omega) (p2_pos _))
  generalize pU sm = p at *
  generalize loU sm = lo at *
  generalize hiU sm = hi at *
  generalize infU sm = inf at *
  unfold f159_39
  rw [l1, zb1_mk, hrho]
  by_cases c0 : L = 0
  · subst c0
    have hB : B = 0 := by rw [Nat.pow_zero] at l2; omega
    have hr : r = 0 := by
      rcases Nat.eq_zero_or_pos r with g | g
      · exact g
      · have := hq (by omega)
        rw [hB] at this
        exact absurd this (by decide)
    refine ⟨0, ?_, ?_⟩
    · rw [if_pos (zeq (by omega))]
      unfold f159_76
      rw [if_neg zi00]
      rfl
    · rw [hB, hr, Nat.zero_mul, Nat.zero_add, Nat.zero_mul]
      exact hz0
  · have l3 := l3.resolve_left c0
    obtain ⟨low, hlow⟩ : ∃ low, low = x - rho := ⟨_, rfl⟩
    rw [← hlow] at hx1 hx2 ⊢
    have etop : zi x - zi rho + zi (L : Int) - zi 1 = zi (low + L - 1) := by
      rw [zi_sub, zi_add, zi_sub, hlow]
    rw [if_neg (zne (by omega)), etop]
    by_cases c1 : low + L - 1 ≤ hi + (p - 1 : Nat)
    · obtain ⟨un, hun⟩ : ∃ un, un = max (low + L - 1 - (p - 1 : Nat)) lo := ⟨_, rfl⟩
      obtain ⟨d, hd⟩ : ∃ d, d = un - low := ⟨_, rfl⟩
      have eun : r264 (zi (low + L - 1) - zi ((p - 1 : Nat) : Int)) (zi lo) s = zi un := by
        rw [zi_sub, r264_max (by omega) (by omega) (by omega) (by omega), hun]
      have ed : zi un - (zi x - zi rho) = zi d := by rw [zi_sub, zi_sub, hd, hlow]
      have hU : RNU Z ((B * m + r) * 2 ^ (low + Z).toNat) m p lo un := RNU_of (L := L) (by omega) hm l2 c0 l3 (by omega) (by omega) (by omega) (by omega) (by omega)
      -- what is kept
      have hKb : B / 2 ^ d.toNat * 2 ^ (-d).toNat < 2 ^ p := by
        by_cases g : 0 ≤ d
        · have e : (-d).toNat = 0 := by omega
          rw [e, Nat.pow_zero, Nat.mul_one, Nat.div_lt_iff_lt_mul (p2_pos _), ← Nat.pow_add]
          exact Nat.lt_of_lt_of_le l2 (Nat.pow_le_pow_right (by decide) (by omega))
        · have e : d.toNat = 0 := by omega
          rw [e, Nat.pow_zero, Nat.div_one]
          have g1 : B * 2 ^ (-d).toNat < 2 ^ L * 2 ^ (-d).toNat := Nat.mul_lt_mul_of_pos_right l2 (p2_pos _)
          rw [← Nat.pow_add] at g1
          exact Nat.lt_of_lt_of_le g1 (Nat.pow_le_pow_right (by decide) (by omega))
      have hp53 : 2 ^ p ≤ 9007199254740992 := Nat.le_trans (Nat.pow_le_pow_right (by decide) hp.2) (by decide)
      have hK2 : B / 2 ^ d.toNat < 4611686018427387904 := by
        have := Nat.le_mul_of_pos_right (B / 2 ^ d.toNat) (p2_pos (-d).toNat)
        omega
      have h160 := f160_eq h l2 (by omega) (lo := d) (by omega) (by omega) hK2
      generalize hK : B / 2 ^ d.toNat * 2 ^ (-d).toNat = K at *
      -- the nearest
      have hnear : near ((B * m + r) * 2 ^ (low + Z).toNat) (m * 2 ^ (un + Z).toNat) = if (1 ≤ d ∧ B / 2 ^ (d - 1).toNat % 2 = 1) ∧ ((if r = 0 ∧ B % 2 ^ (d - 1).toNat = 0 then (0 : Int) else 1) = 1 ∨ K % 2 = 1) then K + 1 else K := by
        by_cases g : 1 ≤ d
        · obtain ⟨j, hj⟩ : ∃ j : Nat, d = j := ⟨d.toNat, by omega⟩
          have e1 : (un + Z).toNat = j + (low + Z).toNat := by omega
          have e2 : (d - 1).toNat = j - 1 := by omega
          have e3 : (-d).toNat = 0 := by omega
          have e4 : d.toNat = j := by omega
          rw [e3, Nat.pow_zero, Nat.mul_one, e4] at hK
          rw [e1, Nat.pow_add, ← Nat.mul_assoc, near_scale (p2_pos _), near_cut (by omega) rfl hm (by omega), e2, hK]
          have q1 : ((if r = 0 ∧ B % 2 ^ (j - 1) = 0 then (0 : Int) else 1) = 1) ↔ (r ≠ 0 ∨ B % 2 ^ (j - 1) ≠ 0) := by
            by_cases q : r = 0 ∧ B % 2 ^ (j - 1) = 0
            · rw [if_pos q]
              constructor
              · intro w; omega
              · intro w; omega
            · rw [if_neg q]
              constructor
              · intro w; omega
              · intro w; rfl
          by_cases q : B / 2 ^ (j - 1) % 2 = 1 ∧ (r ≠ 0 ∨ B % 2 ^ (j - 1) ≠ 0 ∨ K % 2 = 1)
          · rw [if_pos q, if_pos]
            refine ⟨⟨g, q.1⟩, ?_⟩
            rcases q.2 with w | w | w
            · exact .inl (q1.mpr (.inl w))
            · exact .inl (q1.mpr (.inr w))
            · exact .inr w
          · rw [if_neg q, if_neg]
            intro w
            apply q
            refine ⟨w.1.2, ?_⟩
            rcases w.2 with w | w
            · rcases q1.mp w with w | w
              · exact .inl w
              · exact .inr (.inl w)
            · exact .inr (.inr w)
        · have hr : r = 0 := by
            rcases Nat.eq_zero_or_pos r with w | w
            · exact w
            · have h65 := hq (by omega)
              have := (Nat.pow_lt_pow_iff_right (a := 2) (by decide)).mp (Nat.lt_of_le_of_lt h65 l2)
              omega
          have e1 : (low + Z).toNat = (-d).toNat + (un + Z).toNat := by omega
          have e4 : d.toNat = 0 := by omega
          rw [e4, Nat.pow_zero, Nat.div_one] at hK
          rw [if_neg (fun w => g w.1.1), hr, Nat.add_zero, e1, Nat.pow_add]
          have e5 : B * m * (2 ^ (-d).toNat * 2 ^ (un + Z).toNat) = K * (m * 2 ^ (un + Z).toNat) := by
            rw [← hK]
            ac_rfl
          rw [e5, near_mul (Nat.mul_pos (by omega) (p2_pos _))]
      refine ⟨(un - lo).toNat * 2 ^ (p - 1) + near ((B * m + r) * 2 ^ (low + Z).toNat) (m * 2 ^ (un + Z).toNat), ?_, un, hU, by rw [if_neg (by omega)]⟩
      rw [if_pos (zle (by omega)), eun, ed, h160, zb1_mk, hrs', hrs, zi_sub, f158_eq h (by omega) (by omega), zb1_mk, hnear]
      have fin : ∀ y : Int, (y = 0 ∨ y = 1) → y = (if r = 0 ∧ B % 2 ^ (d - 1).toNat = 0 then (0 : Int) else 1) → f159_141 (zi ((p - 1 : Nat) : Int)) (zi lo) (zi un) (zi d) (zl (K : Int)) (zi y) s = some (zl (((un - lo).toNat * 2 ^ (p - 1) + (if (1 ≤ d ∧ B / 2 ^ (d - 1).toNat % 2 = 1) ∧ ((if r = 0 ∧ B % 2 ^ (d - 1).toNat = 0 then (0 : Int) else 1) = 1 ∨ K % 2 = 1) then K + 1 else K) : Nat) : Int), s) := by
        intro y hy he
        rw [← he]
        exact f159_141_eq h (by omega) hlo.2 (by omega) (by omega) (by omega) (by omega) hy (by omega)
      by_cases g : r = 0
      · rw [if_pos g, if_neg (not_not_intro rfl)]
        by_cases g2 : B % 2 ^ (d - 1).toNat = 0
        · rw [if_pos g2, if_pos rfl]
          exact fin 0 (.inl rfl) (by rw [if_pos ⟨g, g2⟩])
        · rw [if_neg g2, if_neg (zne (by omega))]
          exact fin 1 (.inr rfl) (by rw [if_neg (fun w => g2 w.2)])
      · rw [if_neg g, if_pos (zne (by omega))]
        exact fin 1 (.inr rfl) (by rw [if_neg (fun w => g w.1)])
    · refine ⟨inf, ?_, low + L - p, RNU_of (L := L) (by omega) hm l2 c0 l3 (by omega) (by omega) (by omega) (by omega) (by omega), by rw [if_pos (by omega)]⟩
      rw [if_neg (znle (by omega)), h76 L c0 (by omega)]
