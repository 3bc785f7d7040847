/-! the class reads a number -/
theorem FFV (l : List Int) (p : Nat) : ∀ k, (FF 10 l p k = 0 ∧ VV 10 l p k = 0) ∨ (1 ≤ FF 10 l p k ∧ 10 ^ (FF 10 l p k - 1) ≤ VV 10 l p k ∧ VV 10 l p k < 10 ^ FF 10 l p k)
  | 0 => .inl ⟨rfl, rfl⟩
  | k + 1 => by
    have ih := FFV l p k
    have hd := dgc_rng (b := 10) (c := atl l (p + k : Nat)) (.inl rfl)
    by_cases c : atl l (p + k : Nat) = 46
    · have e1 : FF 10 l p (k + 1) = FF 10 l p k := if_pos c
      have e2 : VV 10 l p (k + 1) = VV 10 l p k := if_pos c
      rw [e1, e2]
      exact ih
    · have e1 : FF 10 l p (k + 1) = if 0 < dgc 10 (atl l (p + k : Nat)) ∨ 0 < FF 10 l p k then FF 10 l p k + 1 else FF 10 l p k := if_neg c
      have e2 : VV 10 l p (k + 1) = 10 * VV 10 l p k + (dgc 10 (atl l (p + k : Nat))).toNat := if_neg c
      rw [e1, e2]
      generalize dgc 10 (atl l (p + k : Nat)) = dg at *
      generalize VV 10 l p k = V at *
      generalize FF 10 l p k = F at *
      rcases ih with ⟨h1, h2⟩ | ⟨h1, h2, h3⟩
      · subst h1 h2
        by_cases g : 0 < dg
        · right
          rw [if_pos (.inl g)]
          show 1 ≤ 1 ∧ 10 ^ 0 ≤ _ ∧ _ < 10 ^ 1
          rw [Nat.pow_zero, Nat.pow_one]
          omega
        · left
          rw [if_neg (by omega)]
          omega
      · right
        rw [if_pos (.inr (by omega))]
        obtain ⟨F, rfl⟩ : ∃ j, F = j + 1 := ⟨F - 1, by omega⟩
        show 1 ≤ F + 1 + 1 ∧ 10 ^ (F + 1) ≤ _ ∧ _ < 10 ^ (F + 1 + 1)
        rw [Nat.pow_succ 10 (F + 1)]
        have e3 : 10 ^ (F + 1) = 10 ^ F * 10 := Nat.pow_succ ..
        have h2 : 10 ^ F ≤ V := h2
        generalize 10 ^ (F + 1) = A at *
        generalize 10 ^ F = C at *
        omega
/-- the decimal D 10^P in units -/
def ND10 (Z Y D : Nat) (P : Int) : Nat := D * 10 ^ (P + Y).toNat * 2 ^ Z
theorem k401 : 2 ^ 1100 < 10 ^ 401 ∧ 2 ^ 1100 < 10 ^ 400 ∧ 10 ^ 400 < 2 ^ 4096 := by decide +kernel
theorem dec_zero {Z Y D F : Nat} {P : Int} {sm : Int} (hs : sm = 0 ∨ sm = 1) (hZ : 2000 ≤ Z) (hY : 0 ≤ P + Y) (hD : D < 10 ^ F) (hF : (F : Int) + P ≤ -400) : RN Z (ND10 Z Y D P) (10 ^ Y) sm 0 := by
  refine RN_zero hs hZ ?_
  unfold ND10
  rw [Nat.mul_right_comm]
  refine Nat.mul_lt_mul_of_pos_right ?_ (p2_pos _)
  have h1 : D * 10 ^ (P + Y).toNat < 10 ^ F * 10 ^ (P + Y).toNat := Nat.mul_lt_mul_of_pos_right hD (p_pos _)
  rw [← Nat.pow_add] at h1
  have h2 : 10 ^ (F + (P + Y).toNat) ≤ 10 ^ (Y - 400) := Nat.pow_le_pow_right (by decide) (by omega)
  have e : 10 ^ Y = 10 ^ (Y - 400) * 10 ^ 400 := by
    rw [← Nat.pow_add]
    exact congrArg (10 ^ ·) (by omega)
  rw [e]
  exact Nat.lt_of_lt_of_le (Nat.mul_lt_mul_of_pos_right (Nat.lt_of_lt_of_le h1 h2) (p2_pos _)) (Nat.mul_le_mul_left _ (Nat.le_of_lt k401.2.1))
theorem dec_inf {Z Y D F : Nat} {P : Int} {sm : Int} (hs : sm = 0 ∨ sm = 1) (hY : 0 ≤ P + Y) (hF1 : 1 ≤ F) (hD : 10 ^ (F - 1) ≤ D) (hF : 401 ≤ (F : Int) + P) : RN Z (ND10 Z Y D P) (10 ^ Y) sm (infU sm) := by
  refine RN_inf hs (p_pos _) (t := 1100) (Nat.le_refl _) ?_
  unfold ND10
  rw [Nat.pow_add, ← Nat.mul_assoc]
  refine Nat.mul_le_mul_right _ ?_
  have h1 : 10 ^ (F - 1) * 10 ^ (P + Y).toNat ≤ D * 10 ^ (P + Y).toNat := Nat.mul_le_mul_right _ hD
  rw [← Nat.pow_add] at h1
  have h2 : 10 ^ (Y + 400) ≤ 10 ^ (F - 1 + (P + Y).toNat) := Nat.pow_le_pow_right (by decide) (by omega)
  rw [Nat.pow_add 10 Y 400] at h2
  exact Nat.le_trans (Nat.le_trans (Nat.mul_le_mul_left _ (Nat.le_of_lt k401.2.1)) h2) h1
theorem ten_25 (t : Nat) : 10 ^ t = 2 ^ t * 5 ^ t := by rw [← Nat.mul_pow]
theorem r149_eq {sm : Int} (hs : sm = 0 ∨ sm = 1) (s : zS) : r149 (zi sm) s = zl (infU sm : Nat) := by
  unfold r149
  rcases hs with rfl | rfl
  · exact if_pos rfl
  · exact if_neg (zne (by omega))
theorem f146_eq {s : zS} {D u nb ff Z Y : Nat} {ex sm : Int} (hsm : sm = 0 ∨ sm = 1) (hB : BN s D u 0 0) (hT : TG D u) (h2 : s.1 21 2 = zi sm) (h7 : s.1 21 7 = zi nb) (h8 : s.1 21 8 = zi ff) (h9 : s.1 21 9 = zi ex) (hnb : nb ≤ 800) (hff : ff ≤ 800) (he1 : -100000 ≤ ex) (he2 : ex ≤ 100000) (hV : (ff = 0 ∧ D = 0) ∨ (1 ≤ ff ∧ 10 ^ (ff - 1) ≤ D ∧ D < 10 ^ ff)) (hZ : 400000 ≤ Z) (hY : 400000 ≤ Y) :
    ∃ (b : Nat) (s' : zS), f146 s = some (zl b, s') ∧ fr [22, 23] [] s s' ∧ RN Z (ND10 Z Y D (ex - nb)) (10 ^ Y) sm b := by
  unfold f146
  rw [h8, h9, h7, h2, zi_sub, zi_add, zi_neg]
  obtain ⟨P, hP⟩ : ∃ P, P = ex - nb := ⟨_, rfl⟩
  rw [← hP]
  rcases hV with ⟨v1, v2⟩ | ⟨v1, v2, v3⟩
  · subst v1 v2
    refine ⟨0, s, ?_, fr.refl, ?_⟩
    · rw [if_pos zi0e]
      rfl
    · exact RN_zero hsm (by omega) (by
        unfold ND10
        rw [Nat.zero_mul, Nat.zero_mul, Nat.zero_mul]
        exact Nat.mul_pos (p_pos _) (p2_pos _))
  · rw [if_neg (zne (by omega))]
    by_cases c1 : (ff : Int) + P ≥ -400
    · rw [if_pos (zge (by omega))]
      by_cases c2 : (ff : Int) + P ≤ 400
      · rw [if_pos (zle (by omega))]
        by_cases c3 : P ≥ 0
        · rw [if_pos (zge (by omega))]
          obtain ⟨t, ht⟩ : ∃ t : Nat, P = t := ⟨P.toNat, by omega⟩
          have hbig : D * 5 ^ t < 2 ^ 4096 := by
            have g1 : D * 5 ^ t < 10 ^ ff * 5 ^ t := Nat.mul_lt_mul_of_pos_right v3 (Nat.pow_pos (by decide))
            have g2 : 10 ^ ff * 5 ^ t ≤ 10 ^ ff * 10 ^ t := Nat.mul_le_mul_left _ (Nat.pow_le_pow_left (by decide) _)
            rw [← Nat.pow_add] at g2
            have g3 : 10 ^ (ff + t) ≤ 10 ^ 400 := Nat.pow_le_pow_right (by decide) (by omega)
            exact Nat.lt_trans (Nat.lt_of_lt_of_le g1 (Nat.le_trans g2 g3)) k401.2.2
          obtain ⟨s1, u1, a1, a2, a3⟩ := f152_eq hB (t := t) (by omega) hbig
          have h2' : s1.1 21 2 = zi sm := (congrFun (a3.f rfl (by decide)) 2).trans h2
          obtain ⟨b, b1, b2⟩ := f159_eq (m := 1) (r := 0) (Z := Z) (x := P) a2 hsm rfl (by omega) (fun q => absurd rfl q) (by omega) (by omega) (by omega) (by omega) hZ
          refine ⟨b, s1, ?_, a3, ?_⟩
          · rw [ht, a1, zb0_mk]
            unfold f146_72
            rw [h2', ← ht, b1]
            rfl
          · have := RNT.up (c := 10 ^ Y) (p_pos _) b2
            rw [Nat.one_mul] at this
            have e : (D * 5 ^ t * 1 + 0) * 2 ^ (P - 0 + Z).toNat * 10 ^ Y = ND10 Z Y D P := by
              unfold ND10
              have e1 : (P - 0 + Z).toNat = t + Z := by omega
              have e2 : (P + Y).toNat = t + Y := by omega
              rw [e1, e2, Nat.pow_add, Nat.pow_add, ten_25 t, Nat.mul_one, Nat.add_zero]
              ac_rfl
            rw [e] at this
            exact this
        · rw [if_neg (znge (by omega))]
          obtain ⟨t, ht⟩ : ∃ t : Nat, -P = t := ⟨(-P).toNat, by omega⟩
          have hD0 : D ≠ 0 := by
            have := p_pos (ff - 1)
            omega
          obtain ⟨s1, u1, k, a1, a2, a4, a5, a3⟩ := f153_eq hB hT hD0 (t := t) (by omega)
          have h2' : s1.1 21 2 = zi sm := (congrFun (a3.f rfl (by decide)) 2).trans h2
          obtain ⟨b, b1, b2⟩ := f159_eq (m := 5 ^ t) (r := D * 2 ^ (32 * k) % 5 ^ t) (Z := Z) (x := P) a2 hsm rfl (Nat.mod_lt _ (Nat.pow_pos (by decide))) (fun _ => a4) (by omega) (by omega) (by omega) (by omega) hZ
          refine ⟨b, s1, ?_, a3, ?_⟩
          · rw [ht, a1, zb0_mk]
            unfold f146_72
            rw [h2', b1]
            rfl
          · have := RNT.up (c := 2 ^ t * 10 ^ (Y - t)) (Nat.mul_pos (p2_pos _) (p_pos _)) b2
            have e0 : 5 ^ t * (2 ^ t * 10 ^ (Y - t)) = 10 ^ Y := by
              have : 10 ^ Y = 10 ^ t * 10 ^ (Y - t) := by
                rw [← Nat.pow_add]
                exact congrArg (10 ^ ·) (by omega)
              rw [this, ten_25 t]
              ac_rfl
            have e : (D * 2 ^ (32 * k) / 5 ^ t * 5 ^ t + D * 2 ^ (32 * k) % 5 ^ t) * 2 ^ (P - 32 * (k : Int) + Z).toNat * (2 ^ t * 10 ^ (Y - t)) = ND10 Z Y D P := by
              unfold ND10
              rw [Nat.div_add_mod']
              have e1 : 2 ^ Z = 2 ^ (32 * k) * 2 ^ (P - 32 * (k : Int) + Z).toNat * 2 ^ t := by
                rw [← Nat.pow_add, ← Nat.pow_add]
                exact congrArg (2 ^ ·) (by omega)
              have e2 : (P + Y).toNat = Y - t := by omega
              rw [e1, e2]
              ac_rfl
            rw [e, e0] at this
            exact this
      · rw [if_neg (znle (by omega)), r149_eq hsm]
        exact ⟨_, s, rfl, fr.refl, dec_inf hsm (by omega) v1 v2 (by omega)⟩
    · rw [if_neg (znge (by omega))]
      exact ⟨0, s, rfl, fr.refl, dec_zero hsm (by omega) (by omega) v3 (by omega)⟩
/-- the sixteens D 2^X in units -/
def NH (Z D : Nat) (X : Int) : Nat := D * 2 ^ (X + Z).toNat
theorem f145_eq {s : zS} {D u nb Z : Nat} {ex sm : Int} (hsm : sm = 0 ∨ sm = 1) (hB : BN s D u 0 0) (h2 : s.1 21 2 = zi sm) (h7 : s.1 21 7 = zi nb) (h9 : s.1 21 9 = zi ex) (hnb : nb ≤ 800) (he1 : -100000 ≤ ex) (he2 : ex ≤ 100000) (hZ : 400000 ≤ Z) :
    ∃ b : Nat, f145 s = some (zl b, s) ∧ RN Z (NH Z D (ex - 4 * nb)) 1 sm b := by
  unfold f145
  obtain ⟨b, b1, b2⟩ := f159_eq (m := 1) (r := 0) (Z := Z) (x := ex - 4 * nb) hB hsm rfl (by omega) (fun q => absurd rfl q) (by omega) (by omega) (by omega) (by omega) hZ
  refine ⟨b, ?_, ?_⟩
  · rw [h9, h7, h2, zi_mul, zi_sub, b1]
    rfl
  · have e : (D * 1 + 0) * 2 ^ (ex - 4 * (nb : Int) - 0 + Z).toNat = NH Z D (ex - 4 * nb) := by
      unfold NH
      rw [Nat.mul_one, Nat.add_zero, Int.sub_zero]
    rw [e] at b2
    exact b2
/-- the number that the digits say -/
def NUM (Z Y : Nat) (l : List Int) (p K : Nat) (h ex sm : Int) (b : Nat) : Prop := (h = 0 ∧ RN Z (ND10 Z Y (VV 10 l p K) (ex - NB l p K)) (10 ^ Y) sm b) ∨ (h = 1 ∧ RN Z (NH Z (VV 16 l p K) (ex - 4 * NB l p K)) 1 sm b)
/-- with its sign -/
def sgv2 (ng sm : Int) (b : Nat) : Int64 := if ng = 0 then zl b else if sm = 0 then zl b ||| zl (-9223372036854775808) else zI2L (zL2I (zl b ||| zl 2147483648))
theorem r147_eq {s : zS} {ng sm : Int} (hn : ng = 0 ∨ ng = 1) (hs : sm = 0 ∨ sm = 1) (h5 : s.1 21 5 = zi ng) (h2 : s.1 21 2 = zi sm) (b : Nat) : r147 (zl b) s = sgv2 ng sm b := by
  unfold r147 sgv2
  rw [h5, h2]
  rcases hn with rfl | rfl
  · rw [if_neg (not_not_intro rfl), if_pos rfl]
  · rw [if_pos (zne (by omega)), if_neg (show ¬ (1 : Int) = 0 by decide)]
    rcases hs with rfl | rfl
    · rw [if_pos rfl, if_pos rfl]
    · rw [if_neg (show ¬ zi 1 = zi 0 from zne (by omega)), if_neg (show ¬ (1 : Int) = 0 by decide)]
def bsx (h : Int) : Int := if h = 0 then 10 else 16
def q0x (h : Int) (p : Nat) : Nat := if h = 0 then p else p + 2
def HX (l : List Int) (e p : Nat) : Prop := ch l e p = 48 ∧ (ch l e (p + 1) = 120 ∨ ch l e (p + 1) = 88)
/-- what the class finds at p: a number, or none -/
def FIND (Z Y : Nat) (l : List Int) (e p : Nat) (ng sm h y : Int) (v : Int64) : Prop := ∃ K yy ex q', STP (bsx h) l e (q0x h p) K ∧ EXPO l e h (q0x h p + K) yy ex q' ∧ (y = 0 ∨ y = 1) ∧ (y = 1 ↔ yy = 1 ∧ 0 < ND l (q0x h p) K ∧ AC l e q') ∧ (y = 1 → ∃ b, NUM Z Y l (q0x h p) K h ex sm b ∧ v = sgv2 ng sm b)
theorem q0x_le {l : List Int} {e p : Nat} {h : Int} (hp : p ≤ e) (hh : h = 0 ∨ (h = 1 ∧ HX l e p)) : q0x h p ≤ e := by
  unfold q0x
  rcases hh with rfl | ⟨rfl, h1⟩
  · exact hp
  · have : p + 1 < e := ch_in (l := l) (by have := h1.2; omega)
    show p + 2 ≤ e
    omega
theorem f135_153_eq {s : zS} {l : List Int} {e p Z Y : Nat} {h sm ng : Int} (hh : h = 0 ∨ h = 1) (hsm : sm = 0 ∨ sm = 1) (hng : ng = 0 ∨ ng = 1) (hC : CT s l (q0x h p) e) (hp : q0x h p ≤ e) (h2 : s.1 21 2 = zi sm) (h5 : s.1 21 5 = zi ng) (hZ : 400000 ≤ Z) (hY : 400000 ≤ Y) :
    ∃ y s', f135_153 (zi h) (zi (bsx h)) s = some (zi y, s') ∧ FIND Z Y l e p ng sm h y (s'.2.1 21 10) ∧ fr [21, 22, 23] [] s s' := by
  have hl := hC.len
  have hle := hC.2.2.2.2
  have hbs : bsx h = 10 ∨ bsx h = 16 := by rcases hh with rfl | rfl <;> decide
  obtain ⟨K, s1, u1, a1, a2, a3, a4, a5, a6, a7⟩ := f140_eq hbs hC hp
  have hK := a2.le hp
  obtain ⟨yy, ex, q', s2, b1, b2, b3, b4, b5⟩ := f143_eq hh a3 hK
  obtain ⟨r1, r2, r3⟩ := b2.rng hK
  obtain ⟨s3, q3, c1, c2, c3, c4, c5⟩ := f144_eq b3 r1
  have k12 : kp [21, 22, 23] [3, 6, 7, 8, 9] s s2 := (a7.up rfl rfl).trans (b5.up rfl rfl)
  have k13 : kp [21, 22, 23] [3, 6, 7, 8, 9] s s3 := k12.trans (c5.up rfl rfl)
  have k23 : kp [21] [3, 9] s1 s3 := b5.trans (c5.up rfl rfl)
  have hyy : yy = 0 ∨ yy = 1 := by
    rcases b2 with ⟨_, J, _, _, _, g⟩ | ⟨_, _, _, g⟩
    · rw [g]
      split
      · exact .inl rfl
      · exact .inr rfl
    · omega
  have hnd := ND_le l (q0x h p) K
  have hnb := NB_le l (q0x h p) K
  have hff := FF_le (bsx h) l (q0x h p) K
  have h6 : s2.1 21 6 = zi (ND l (q0x h p) K : Nat) := (b5.2 6 rfl).trans a4.1
  unfold f135_153
  rw [a1, zb0_mk, b1, zb1_mk, h6]
  -- the last part
  have no : ¬ (yy = 1 ∧ 0 < ND l (q0x h p) K) → ∃ y s', f135_176 (zi h) (zi 0) s2 = some (zi y, s') ∧ FIND Z Y l e p ng sm h y (s'.2.1 21 10) ∧ fr [21, 22, 23] [] s s' := by
    intro q
    refine ⟨0, s3, ?_, ⟨K, yy, ex, q', a2, b2, .inl rfl, ⟨fun w => by omega, fun w => absurd ⟨w.1, w.2.1⟩ q⟩, fun w => by omega⟩, k13.1⟩
    unfold f135_176
    rw [c1, zb0_mk, if_pos rfl]
  have yes : yy = 1 → 0 < ND l (q0x h p) K → ∃ y s', f135_176 (zi h) (zi 1) s2 = some (zi y, s') ∧ FIND Z Y l e p ng sm h y (s'.2.1 21 10) ∧ fr [21, 22, 23] [] s s' := by
    intro w1 w2
    unfold f135_176
    rw [c1, zb0_mk, if_neg (zne (by omega)), c2.2.2.1, c2.2.2.2.1]
    by_cases g : e ≤ q3
    · rw [if_pos (zge (by omega))]
      have hac := c3.mp g
      have hB3 : BN s3 (VV (bsx h) l (q0x h p) K) u1 0 0 := a5.mv k23.1 rfl rfl
      have g2 : s3.1 21 2 = zi sm := (k13.2 2 rfl).trans h2
      have g5 : s3.1 21 5 = zi ng := (k13.2 5 rfl).trans h5
      have g7 : s3.1 21 7 = zi (NB l (q0x h p) K : Nat) := (k23.2 7 rfl).trans a4.2.1
      have g8 : s3.1 21 8 = zi (FF (bsx h) l (q0x h p) K : Nat) := (k23.2 8 rfl).trans a4.2.2
      have g9 : s3.1 21 9 = zi ex := (c5.2 9 rfl).trans b4
      have fin : ∀ (b : Nat) (s4 : zS), fr [22, 23] [] s3 s4 → NUM Z Y l (q0x h p) K h ex sm b → ∃ y s', f135_215 (zl b) s4 = some (zi y, s') ∧ FIND Z Y l e p ng sm h y (s'.2.1 21 10) ∧ fr [21, 22, 23] [] s s' := by
        intro b s4 hf hN
        have e5 : s4.1 21 5 = zi ng := (congrFun (hf.f rfl (by decide)) 5).trans g5
        have e2 : s4.1 21 2 = zi sm := (congrFun (hf.f rfl (by decide)) 2).trans g2
        refine ⟨1, setJ s4 21 10 (sgv2 ng sm b), ?_, ⟨K, yy, ex, q', a2, b2, .inr rfl, ⟨fun _ => ⟨w1, w2, hac⟩, fun _ => rfl⟩, fun _ => ⟨b, hN, rfl⟩⟩, (k13.1.trans (hf.up rfl rfl)).sJ rfl⟩
        unfold f135_215
        rw [r147_eq hng hsm e5 e2]
      rcases hh with rfl | rfl
      · rw [if_pos rfl]
        obtain ⟨b, s4, x1, x2, x3⟩ := f146_eq (Z := Z) (Y := Y) hsm hB3 a6 g2 g7 g8 g9 (by omega) (by omega) r2 r3 (FFV l _ K) hZ hY
        rw [x1, zb1_mk]
        exact fin b s4 x2 (.inl ⟨rfl, x3⟩)
      · rw [if_neg (zne (by omega))]
        obtain ⟨b, x1, x3⟩ := f145_eq (Z := Z) hsm hB3 g2 g7 g9 (by omega) r2 r3 hZ
        rw [x1, zb1_mk]
        exact fin b s3 fr.refl (.inr ⟨rfl, x3⟩)
    · rw [if_neg (znge (by omega))]
      exact ⟨0, s3, rfl, ⟨K, yy, ex, q', a2, b2, .inl rfl, ⟨fun w => by omega, fun w => absurd (c3.mpr w.2.2) g⟩, fun w => by omega⟩, k13.1⟩
  by_cases d1 : yy = 0
  · rw [d1, if_pos rfl]
    exact no (by omega)
  · rw [if_neg (zne (by omega))]
    by_cases d2 : 0 < ND l (q0x h p) K
    · rw [if_neg (znle (by omega))]
      exact yes (by omega) d2
    · rw [if_pos (zle (by omega))]
      exact no (by omega)
/-- what the class reads at p -/
def RDP (Z Y : Nat) (l : List Int) (e p : Nat) (ngv sm y : Int) (v : Int64) : Prop :=
  (isW l (lit 53) e p ∧ y = 1 ∧ v = zl (if sm = 0 then 9221120237041090560 else 2143289344)) ∨
  (¬ isW l (lit 53) e p ∧ isW l (lit 54) e p ∧ y = 1 ∧ v = sgv2 ngv sm (infU sm)) ∨
  (¬ isW l (lit 53) e p ∧ ¬ isW l (lit 54) e p ∧ ∃ h, ((h = 0 ∧ ¬ HX l e p) ∨ (h = 1 ∧ HX l e p)) ∧ FIND Z Y l e p ngv sm h y v)
def READ (Z Y : Nat) (l : List Int) (sm y : Int) (v : Int64) : Prop := RDP Z Y l (E0 l) (sg l (E0 l) (P0 l)) (ng l (E0 l) (P0 l)) sm y v
theorem f135_eq {s : zS} {l : List Int} {sm : Int} {Z Y : Nat} (hL : LN 1 s l) (ha : asc l) (hsm : sm = 0 ∨ sm = 1) (hZ : 400000 ≤ Z) (hY : 400000 ≤ Y) : ∃ y s', f135 (zi sm) s = some (zi y, s') ∧ READ Z Y l sm y (s'.2.1 21 10) ∧ fr [21, 22, 23] [] s s' := by
  have hPE := PE l
  have hbit : mBit (zi sm) := by rcases hsm with rfl | rfl <;> decide
  have hk1 : kp [21] [2] s (setI s 21 2 (zi sm)) := kp.refl.sI rfl rfl
  obtain ⟨s1, a1, a2, a3⟩ := f136_eq (s := setI s 21 2 (zi sm)) (hL.mv hk1.1 rfl rfl (by decide) (by decide)) ha
  obtain ⟨s2, b1, b2, b3⟩ := f138_eq a2 hPE.1
  have hsg := sg_le (l := l) (e := E0 l) (p := P0 l) hPE.1
  have hl := b2.len
  unfold READ
  have hng := ng_bit l (E0 l) (P0 l)
  generalize hn : ng l (E0 l) (P0 l) = ngv at *
  generalize hp : sg l (E0 l) (P0 l) = p at *
  generalize he : E0 l = e at *
  have hbn : mBit (zi ngv) := by rcases hng with rfl | rfl <;> decide
  have hk3 : kp [21] [5] s2 (setI s2 21 5 (zi ngv)) := kp.refl.sI rfl rfl
  have hC : CT (setI s2 21 5 (zi ngv)) l p e := b2.stay hk3 rfl rfl rfl rfl
  have hf : kp [21] [2, 3, 4, 5] s (setI s2 21 5 (zi ngv)) := ((hk1.up rfl rfl).trans ((a3.up rfl rfl).trans (b3.up rfl rfl))).trans (hk3.up rfl rfl)
  have h2 : (setI s2 21 5 (zi ngv)).1 21 2 = zi sm := ((b3.2 2 rfl).trans (a3.2 2 rfl)).trans rfl
  have h5 : (setI s2 21 5 (zi ngv)).1 21 5 = zi ngv := rfl
  generalize hs3 : setI s2 21 5 (zi ngv) = s3 at *
  obtain ⟨y1, c1, c2, c3⟩ := f139_eq hC hsg.2 (c := 53) (by omega)
  obtain ⟨y2, d1, d2, d3⟩ := f139_eq hC hsg.2 (c := 54) (by omega)
  unfold f135
  rw [if_pos hbit, a1, zb0_mk, b1, zb1_mk, if_pos hbn, hs3, c1, zb1_mk]
  have hr := ch_rng ha e p
  have hr1 := ch_rng ha e (p + 1)
  have hle := hC.2.2.2.2
  rcases c2 with rfl | rfl
  · have n1 : ¬ isW l (lit 53) e p := fun q => absurd (c3.mpr q) (by decide)
    rw [if_pos rfl, d1, zb1_mk]
    rcases d2 with rfl | rfl
    · have n2 : ¬ isW l (lit 54) e p := fun q => absurd (d3.mpr q) (by decide)
      rw [if_pos rfl, f137_eq hC (by omega), zb1_mk]
      -- both roads
      have dec : ¬ HX l e p → ∃ y s', f135_122 (zi sm) (zi 0) s3 = some (zi y, s') ∧ RDP Z Y l e p ngv sm y (s'.2.1 21 10) ∧ fr [21, 22, 23] [] s s' := by
        intro nx
        have hk : kp [21] [3] s3 (setI s3 21 3 (zi (p : Int))) := kp.refl.sI rfl rfl
        obtain ⟨y, s', x1, x2, x3⟩ := f135_153_eq (h := 0) (p := p) (Z := Z) (Y := Y) (.inl rfl) hsm hng (hC.go hk rfl rfl rfl rfl) hsg.2 ((hk.2 2 rfl).trans h2) ((hk.2 5 rfl).trans h5) hZ hY
        refine ⟨y, s', ?_, .inr (.inr ⟨n1, n2, 0, .inl ⟨rfl, nx⟩, x2⟩), ((hf.1.up rfl rfl).trans (hk.1.up rfl rfl)).trans x3⟩
        unfold f135_122 f135_137
        have e3 : s3.1 21 3 + zi 0 = zi (p : Int) := by rw [hC.2.2.1, zi_add, Int.add_zero]
        rw [if_pos rfl, if_pos rfl, e3]
        exact x1
      have hex : HX l e p → ∃ y s', f135_122 (zi sm) (zi 1) s3 = some (zi y, s') ∧ RDP Z Y l e p ngv sm y (s'.2.1 21 10) ∧ fr [21, 22, 23] [] s s' := by
        intro hx
        have hk : kp [21] [3] s3 (setI s3 21 3 (zi ((p + 2 : Nat) : Int))) := kp.refl.sI rfl rfl
        obtain ⟨y, s', x1, x2, x3⟩ := f135_153_eq (h := 1) (p := p) (Z := Z) (Y := Y) (.inr rfl) hsm hng (hC.go hk rfl rfl rfl rfl) (q0x_le hsg.2 (.inr ⟨rfl, hx⟩)) ((hk.2 2 rfl).trans h2) ((hk.2 5 rfl).trans h5) hZ hY
        refine ⟨y, s', ?_, .inr (.inr ⟨n1, n2, 1, .inr ⟨rfl, hx⟩, x2⟩), ((hf.1.up rfl rfl).trans (hk.1.up rfl rfl)).trans x3⟩
        unfold f135_122 f135_137
        have e3 : s3.1 21 3 + zi 2 = zi ((p + 2 : Nat) : Int) := by rw [hC.2.2.1]; exact zi_add _ _
        rw [if_neg (zne (by omega)), if_neg (zne (by omega)), e3]
        exact x1
      by_cases g1 : ch l e p = 48
      · rw [if_neg (not_not_intro (zeq g1)), hC.2.2.1, hC.2.2.2.1]
        have e4 : zi (p : Int) + zi 1 = zi ((p + 1 : Nat) : Int) := zi_add _ _
        rw [e4]
        by_cases g2 : p + 1 < e
        · have hch : ch l e (p + 1) = atl l (p + 1 : Nat) := if_pos g2
          rw [if_neg (znge (by omega)), hC.1.at (by omega) (by omega), zb1_mk, ← hch, or32 hr1.1 hr1.2]
          have ho := o32_rng hr1.1 hr1.2
          have hi := o32_is hr1.1 hr1.2 (t := 120) (by omega) (by omega)
          by_cases g3 : o32 (ch l e (p + 1)) = 120
          · rw [if_neg (not_not_intro (zeq g3))]
            exact hex ⟨g1, by omega⟩
          · rw [if_pos (zne (by omega))]
            exact dec (fun q => by have := q.2; omega)
        · rw [if_pos (zge (by omega))]
          exact dec (fun q => by
            have : p + 1 < e := ch_in (l := l) (by have := q.2; omega)
            omega)
      · rw [if_pos (zne (by omega))]
        exact dec (fun q => g1 q.1)
    · rw [if_neg (zne (by omega))]
      refine ⟨1, setJ s3 21 10 (sgv2 ngv sm (infU sm)), ?_, .inr (.inl ⟨n1, d3.mp rfl, rfl, rfl⟩), (hf.1.up rfl rfl).sJ rfl⟩
      rw [h2, r149_eq hsm, r147_eq hng hsm h5 h2]
  · rw [if_neg (zne (by omega)), h2]
    refine ⟨1, setJ s3 21 10 (zl (if sm = 0 then 9221120237041090560 else 2143289344)), ?_, .inl ⟨c3.mp rfl, rfl, rfl⟩, (hf.1.up rfl rfl).sJ rfl⟩
    rcases hsm with rfl | rfl
    · rw [if_pos rfl, if_pos rfl]
    · rw [if_neg (show ¬ zi 1 = zi 0 from zne (by omega)), if_neg (show ¬ (1 : Int) = 0 by decide)]
