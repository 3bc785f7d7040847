/-! the reference reads decimals -/
theorem FF_more {b : Int} {l : List Int} {p k : Nat} (h : 1 ≤ FF b l p k) : ∀ m, 1 ≤ FF b l p (k + m) ∧ FF b l p (k + m) + ND l p k = FF b l p k + ND l p (k + m)
  | 0 => ⟨h, rfl⟩
  | m + 1 => by
    have ih := FF_more h m
    by_cases c : atl l (p + (k + m) : Nat) = 46
    · have e1 : FF b l p (k + (m + 1)) = FF b l p (k + m) := if_pos c
      have e2 : ND l p (k + (m + 1)) = ND l p (k + m) := if_pos c
      rw [e1, e2]
      exact ih
    · have h0 : 0 < FF b l p (k + m) := ih.1
      have e1 : FF b l p (k + (m + 1)) = FF b l p (k + m) + 1 := (if_neg c).trans (if_pos (.inr h0))
      have e2 : ND l p (k + (m + 1)) = ND l p (k + m) + 1 := if_neg c
      rw [e1, e2]
      omega
theorem PT_zero {l : List Int} {p : Nat} : ∀ k, PT l p k = 0 → NB l p k = 0 ∧ ND l p k = k
  | 0, _ => ⟨rfl, rfl⟩
  | k + 1, h => by
    have c : atl l (p + k : Nat) ≠ 46 := by
      intro c
      have e : PT l p (k + 1) = 1 := if_pos c
      omega
    have e0 : PT l p (k + 1) = PT l p k := if_neg c
    have ih := PT_zero (l := l) (p := p) k (by omega)
    have e1 : NB l p (k + 1) = NB l p k + PT l p k := if_neg c
    have e2 : ND l p (k + 1) = ND l p k + 1 := if_neg c
    omega
/-- where the point stands, or -1 -/
def pp (l : List Int) (p k : Nat) : Int := if PT l p k = 0 then -1 else ((p + (ND l p k - NB l p k) : Nat) : Int)
theorem f210_10_loop {l : List Int} {p e K : Nat} (hS : STP 10 l e p K) (hp : p ≤ e) {x1 : Int32} : ∀ (d k n : Nat) (s : zS), d + k = K → d < n → MT s l p e → f210_10 n x1 (zi ((p + k : Nat) : Int)) (zi (ND l p k : Nat)) (zi (pp l p k)) s = f210_61 x1 (zi ((p + K : Nat) : Int)) (zi (ND l p K : Nat)) (zi (pp l p K)) s := by
  intro d
  induction d with
  | zero =>
    intro k n s hd hn hM
    obtain ⟨n, rfl⟩ : ∃ k, n = k + 1 := ⟨n - 1, by omega⟩
    obtain rfl : k = K := by omega
    have h5 := hM.2.2.2.2.1
    have h6 := hM.2.2.2.2.2
    have hr := ch_rng hM.2.1 e (p + k)
    have hno := hS.2
    have hpk : p + k < 3000 ∨ e ≤ p + k := by omega
    have hnd := ND_le l p k
    have hle := hS.le hp
    have hb : p + k < 2147483648 := by omega
    have nodig : ¬ (48 ≤ ch l e (p + k) ∧ ch l e (p + k) ≤ 57) := by
      intro q
      have hin : p + k < e := ch_in (l := l) (by omega)
      have hc : ch l e (p + k) = atl l (p + k : Nat) := if_pos hin
      exact hno ⟨hin, .inl (by rw [dgc10, ← hc, if_pos q]; omega)⟩
    show b210_10 (f210_10 n) _ _ _ _ _ = _
    unfold b210_10
    rw [f205_eq hM hb, zb1_mk, r196_eq (by omega) (by omega), if_neg nodig, if_neg (not_not_intro rfl), f205_eq hM hb, zb1_mk]
    by_cases c : ch l e (p + k) = 46
    · have hin : p + k < e := ch_in (l := l) (by omega)
      have hc : ch l e (p + k) = atl l (p + k : Nat) := if_pos hin
      have hpt : PT l p k ≠ 0 := fun q => hno ⟨hin, .inr ⟨by rw [← hc]; exact c, q⟩⟩
      have epp : pp l p k = ((p + (ND l p k - NB l p k) : Nat) : Int) := if_neg hpt
      rw [c, if_neg (not_not_intro rfl), epp, if_pos (zge (by omega))]
    · rw [if_pos (zne (by omega))]
  | succ d ih =>
    intro k n s hd hn hM
    obtain ⟨n, rfl⟩ : ∃ k, n = k + 1 := ⟨n - 1, by omega⟩
    have h5 := hM.2.2.2.2.1
    have h6 := hM.2.2.2.2.2
    have hr := ch_rng hM.2.1 e (p + k)
    obtain ⟨hin, hgo⟩ := hS.1 k (by omega)
    have hc : ch l e (p + k) = atl l (p + k : Nat) := if_pos hin
    have ih' := ih (k + 1) n s (by omega) (by omega) hM
    have e1 : zi ((p + k : Nat) : Int) + zi 1 = zi ((p + (k + 1) : Nat) : Int) := zi_add _ _
    have e2 : zi (ND l p k : Nat) + zi 1 = zi ((ND l p k + 1 : Nat) : Int) := zi_add _ _
    show b210_10 (f210_10 n) _ _ _ _ _ = _
    unfold b210_10 f210_36
    rw [f205_eq hM (by omega), zb1_mk, r196_eq (by omega) (by omega), f205_eq hM (by omega), zb1_mk, e1, e2]
    by_cases c : atl l (p + k : Nat) = 46
    · have hpt : PT l p k = 0 := by
        rcases hgo with q | q
        · rw [c, dgc_dot] at q
          omega
        · exact q.2
      obtain ⟨z1, z2⟩ := PT_zero k hpt
      have n1 : ND l p (k + 1) = ND l p k := if_pos c
      have n2 : NB l p (k + 1) = NB l p k := if_pos c
      have n3 : PT l p (k + 1) = 1 := if_pos c
      have ep : pp l p k = -1 := if_pos hpt
      have ep1 : pp l p (k + 1) = ((p + k : Nat) : Int) := by
        unfold pp
        rw [if_neg (by omega), n1, n2]
        exact congrArg (fun x : Nat => (x : Int)) (by omega)
      rw [n1, ep1] at ih'
      rw [hc, c, if_neg (show ¬ ((48 : Int) ≤ 46 ∧ (46 : Int) ≤ 57) by omega), if_neg (not_not_intro rfl), zb1_mk, if_neg (not_not_intro rfl), ep, if_neg (znge (by omega)), f205_eq hM (by omega), zb1_mk, hc, c, if_neg (not_not_intro rfl)]
      exact ih'
    · have hdg : 48 ≤ ch l e (p + k) ∧ ch l e (p + k) ≤ 57 := by
        rcases hgo with q | q
        · rw [dgc10, ← hc] at q
          by_cases w : 48 ≤ ch l e (p + k) ∧ ch l e (p + k) ≤ 57
          · exact w
          · rw [if_neg w] at q
            omega
        · exact absurd q.1 c
      have n1 : ND l p (k + 1) = ND l p k + 1 := if_neg c
      have n2 : NB l p (k + 1) = NB l p k + PT l p k := if_neg c
      have n3 : PT l p (k + 1) = PT l p k := if_neg c
      have ep1 : pp l p (k + 1) = pp l p k := by
        unfold pp
        rw [n3]
        rcases PT_bit l p k with w | w
        · rw [if_pos w, if_pos w]
        · rw [if_neg (by omega), if_neg (by omega), n1, n2, w]
          exact congrArg (fun x : Nat => ((p + x : Nat) : Int)) (by omega)
      rw [n1, ep1] at ih'
      rw [if_pos hdg, if_pos (zne (by omega)), if_pos (zne (by omega))]
      exact ih'
theorem n10_eq {Z Y D : Nat} {P : Int} (hP : 0 ≤ 3780 + P) (hY : 3780 ≤ Y) : D * 10 ^ (3780 + P).toNat * 2 ^ Z * 10 ^ (Y - 3780) = ND10 Z Y D P ∧ 10 ^ 3780 * 10 ^ (Y - 3780) = 10 ^ Y := by
  constructor
  · unfold ND10
    have e : 10 ^ (P + Y).toNat = 10 ^ (3780 + P).toNat * 10 ^ (Y - 3780) := by
      rw [← Nat.pow_add]
      exact congrArg (10 ^ ·) (by omega)
    rw [e]
    generalize 10 ^ (3780 + P).toNat = A
    generalize 10 ^ (Y - 3780) = B
    generalize 2 ^ Z = C
    ac_rfl
  · rw [← Nat.pow_add]
    exact congrArg (10 ^ ·) (by omega)
theorem f210_185_loop {l : List Int} {p e K Z Y : Nat} {ex sm : Int} (hs : sm = 0 ∨ sm = 1) (hS : STP 10 l e p K) (hK : p + K ≤ e) (he1 : -100000 ≤ ex) (he2 : ex ≤ 100000) (hZ : 400000 ≤ Z) (hY : 400000 ≤ Y) {x8 : Int32} {at' : Nat → Int} (hat : ∀ k, at' k = (ND l p K : Int) - NB l p K - 1 + ex - ND l p k) {te : Int} (hte : te = (FF 10 l p K : Int) + (ex - NB l p K)) : ∀ (d k n : Nat) (s : zS) (any : Int), d + k = K → d < n → MT s l p e →
    ((any = 0 ∧ FF 10 l p k = 0 ∧ DEC s 32 0 45 45) ∨ (any = 1 ∧ 1 ≤ FF 10 l p k ∧ -400 ≤ te - 1 ∧ te - 1 ≤ 400 ∧ ∃ a b, DEC s 32 (VV 10 l p k * 10 ^ (3780 + (at' k + 1)).toNat) a b ∧ WW (a + 1) ≤ VV 10 l p k * 10 ^ (3780 + (at' k + 1)).toNat)) →
    ∃ (v : Nat) (s' : zS), f210_185 n (zi sm) (zi ((p + K : Nat) : Int)) x8 (zi (at' k)) (zi any) (zi ((p + k : Nat) : Int)) s = some (zl v, s') ∧ fr [32, 33] [] s s' ∧ D6 32 s' ∧ RN Z (ND10 Z Y (VV 10 l p K) (ex - NB l p K)) (10 ^ Y) sm v := by
  have hndK := ND_le l p K
  have hnbK := NB_le l p K
  have hffK := FF_le 10 l p K
  obtain ⟨P, hP⟩ : ∃ P, P = ex - (NB l p K : Int) := ⟨_, rfl⟩
  rw [← hP] at hte ⊢
  intro d
  induction d with
  | zero =>
    intro k n s any hd hn hM hI
    obtain ⟨n, rfl⟩ : ∃ k, n = k + 1 := ⟨n - 1, by omega⟩
    obtain rfl : k = K := by omega
    have h5 := hM.2.2.2.2.1
    have h6 := hM.2.2.2.2.2
    have hat1 : at' k + 1 = P := by rw [hat]; omega
    have hV := FFV l p k
    show ∃ (v : Nat) (s' : zS), b210_185 (f210_185 n) _ _ _ _ _ _ _ = _ ∧ _
    unfold b210_185
    rw [if_pos (zge (by omega))]
    rcases hI with ⟨rfl, i1, i2⟩ | ⟨rfl, i1, i2, i3, a, b, i4, i5⟩
    · rw [if_pos rfl]
      have hv0 : VV 10 l p k = 0 := by omega
      refine ⟨0, s, rfl, fr.refl, i2.D6, ?_⟩
      rw [hv0]
      exact RN_zero hs (by omega) (by
        unfold ND10
        rw [Nat.zero_mul, Nat.zero_mul, Nat.zero_mul]
        exact Nat.mul_pos (p_pos _) (p2_pos _))
    · rw [if_neg (zne (by omega))]
      rw [hat1] at i4 i5
      have hv : 10 ^ (FF 10 l p k - 1) ≤ VV 10 l p k ∧ VV 10 l p k < 10 ^ FF 10 l p k := by
        rcases hV with w | w
        · omega
        · exact w.2
      have hlt : VV 10 l p k * 10 ^ (3780 + P).toNat < 10 ^ 405 * 10 ^ 3780 := by
        have g1 : VV 10 l p k * 10 ^ (3780 + P).toNat < 10 ^ FF 10 l p k * 10 ^ (3780 + P).toNat := Nat.mul_lt_mul_of_pos_right hv.2 (p_pos _)
        rw [← Nat.pow_add] at g1
        rw [← Nat.pow_add]
        exact Nat.lt_of_lt_of_le g1 (Nat.pow_le_pow_right (by decide) (by omega))
      have htop : TOP (VV 10 l p k * 10 ^ (3780 + P).toNat) a := by
        rcases Nat.lt_or_ge a 43 with w | w
        · exact .inr (Nat.le_trans (WW_mono (by omega)) i5)
        · exact .inl w
      have hne : VV 10 l p k * 10 ^ (3780 + P).toNat ≠ 0 := Nat.ne_of_gt (Nat.lt_of_lt_of_le (WW_pos _) i5)
      have hdv : 10 ^ 1401 ∣ VV 10 l p k * 10 ^ (3780 + P).toNat := Nat.dvd_mul_left_of_dvd (Nat.pow_dvd_pow 10 (by omega)) _
      obtain ⟨v, s', x1, x2, x3, x4⟩ := f211_eq (Z := Z) hs i4 htop hne hlt hdv (by omega)
      refine ⟨v, s', by rw [x1]; rfl, x2, x3, ?_⟩
      have := RNT.up (c := 10 ^ (Y - 3780)) (p_pos _) x4
      obtain ⟨q1, q2⟩ := n10_eq (Z := Z) (Y := Y) (D := VV 10 l p k) (P := P) (by omega) (by omega)
      rw [q1, q2] at this
      exact this
  | succ d ih =>
    intro k n s any hd hn hM hI
    obtain ⟨n, rfl⟩ : ∃ k, n = k + 1 := ⟨n - 1, by omega⟩
    have h5 := hM.2.2.2.2.1
    have h6 := hM.2.2.2.2.2
    have hr := ch_rng hM.2.1 e (p + k)
    obtain ⟨hin, hgo⟩ := hS.1 k (by omega)
    have hc : ch l e (p + k) = atl l (p + k : Nat) := if_pos hin
    have hndk := ND_le l p k
    have hatk := hat k
    have hatk1 := hat (k + 1)
    have e1 : zi ((p + k : Nat) : Int) + zi 1 = zi ((p + (k + 1) : Nat) : Int) := zi_add _ _
    have e9 : zi (at' k) + zi (-1) = zi (at' k - 1) := by rw [zi_add]; rfl
    have hany : any = 0 ∨ any = 1 := by
      rcases hI with w | w
      · exact .inl w.1
      · exact .inr w.1
    show ∃ (v : Nat) (s' : zS), b210_185 (f210_185 n) _ _ _ _ _ _ _ = _ ∧ _
    unfold b210_185
    rw [if_neg (znge (by omega)), f205_eq hM (by omega), zb1_mk, hc, e1, e9]
    by_cases c : atl l (p + k : Nat) = 46
    · have n1 : ND l p (k + 1) = ND l p k := if_pos c
      have n2 : FF 10 l p (k + 1) = FF 10 l p k := if_pos c
      have n3 : VV 10 l p (k + 1) = VV 10 l p k := if_pos c
      have n4 : at' (k + 1) = at' k := by omega
      have ih' := ih (k + 1) n s any (by omega) (by omega) hM (by rw [n2, n3, n4]; exact hI)
      rw [n4] at ih'
      rw [if_neg (not_not_intro (zeq c))]
      exact ih'
    · have hdg : 48 ≤ atl l (p + k : Nat) ∧ atl l (p + k : Nat) ≤ 57 := by
        rcases hgo with q | q
        · rw [dgc10] at q
          by_cases w : 48 ≤ atl l (p + k : Nat) ∧ atl l (p + k : Nat) ≤ 57
          · exact w
          · rw [if_neg w] at q
            omega
        · exact absurd q.1 c
      have edg : dgc 10 (atl l (p + k : Nat)) = atl l (p + k : Nat) - 48 := by rw [dgc10, if_pos hdg]
      have n1 : ND l p (k + 1) = ND l p k + 1 := if_neg c
      have n2 : FF 10 l p (k + 1) = if 0 < dgc 10 (atl l (p + k : Nat)) ∨ 0 < FF 10 l p k then FF 10 l p k + 1 else FF 10 l p k := if_neg c
      have n3 : VV 10 l p (k + 1) = 10 * VV 10 l p k + (dgc 10 (atl l (p + k : Nat))).toNat := if_neg c
      have n4 : at' (k + 1) = at' k - 1 := by omega
      rw [edg] at n2 n3
      rw [if_pos (zne (by omega))]
      -- where the value stands
      have hpos : 1 ≤ FF 10 l p (k + 1) → (at' k : Int) = te - FF 10 l p (k + 1) := by
        intro w
        obtain ⟨m, hm⟩ : ∃ m, K = k + 1 + m := ⟨K - (k + 1), by omega⟩
        have := (FF_more w m).2
        rw [← hm] at this
        omega
      by_cases c0 : atl l (p + k : Nat) = 48
      · rw [if_pos (zeq c0)]
        rw [c0] at n2 n3
        have ih' := ih (k + 1) n s any (by omega) (by omega) hM (by
          rcases hI with ⟨i0, i1, i2⟩ | ⟨i0, i1, i2, i3, a, b, i4, i5⟩
          · left
            refine ⟨i0, ?_, i2⟩
            rw [n2, if_neg (by omega)]
            exact i1
          · right
            have hn2 : FF 10 l p (k + 1) = FF 10 l p k + 1 := by rw [n2, if_pos (.inr (by omega))]
            have hp := hpos (by omega)
            have e : VV 10 l p (k + 1) * 10 ^ (3780 + (at' (k + 1) + 1)).toNat = VV 10 l p k * 10 ^ (3780 + (at' k + 1)).toNat := by
              have e2 : (3780 + (at' k + 1)).toNat = (3780 + (at' (k + 1) + 1)).toNat + 1 := by omega
              have e3 : ((48 : Int) - 48).toNat = 0 := rfl
              rw [n3, e2, Nat.pow_succ, e3, Nat.add_zero]
              ac_rfl
            refine ⟨i0, by omega, i2, i3, a, b, ?_, ?_⟩
            · rw [e]; exact i4
            · rw [e]; exact i5)
        rw [n4] at ih'
        exact ih'
      · rw [if_neg (zne (by omega))]
        have hn2 : FF 10 l p (k + 1) = FF 10 l p k + 1 := by rw [n2, if_pos (.inl (by omega))]
        have hp := hpos (by omega)
        obtain ⟨dg, hdg'⟩ : ∃ dg : Nat, atl l (p + k : Nat) - 48 = dg := ⟨(atl l (p + k : Nat) - 48).toNat, by omega⟩
        rw [hdg', Int.toNat_natCast] at n3
        -- a digit is added
        have add : -400 ≤ te - 1 → te - 1 ≤ 400 → (∃ a b, DEC s 32 (VV 10 l p k * 10 ^ (3780 + (at' k + 1)).toNat) a b ∧ ((VV 10 l p k * 10 ^ (3780 + (at' k + 1)).toNat = 0 ∧ a = b) ∨ WW (a + 1) ≤ VV 10 l p k * 10 ^ (3780 + (at' k + 1)).toNat)) →
            ∃ (v : Nat) (s' : zS), f210_259 (f210_185 n) (zi sm) (zi ((p + K : Nat) : Int)) x8 (zi (at' k)) (zi ((p + k : Nat) : Int)) (zi (atl l (p + k : Nat))) s = some (zl v, s') ∧ fr [32, 33] [] s s' ∧ D6 32 s' ∧ RN Z (ND10 Z Y (VV 10 l p K) P) (10 ^ Y) sm v := by
          intro t1 t2 hx
          obtain ⟨a, b, x1, x2⟩ := hx
          have e3 : (3780 + (at' k + 1)).toNat = (3780 + at' k).toNat + 1 := by omega
          obtain ⟨s1, a1, b1, y1, y2, y3, y4⟩ := f240_eq (d := dg) (pos := at' k) x1 x2 (by omega) (by omega) (by omega) (by omega) (by rw [e3]; exact Nat.dvd_mul_left _ _)
          have eN : VV 10 l p k * 10 ^ (3780 + (at' k + 1)).toNat + dg * 10 ^ (3780 + at' k).toNat = VV 10 l p (k + 1) * 10 ^ (3780 + (at' (k + 1) + 1)).toNat := by
            have e4 : at' (k + 1) + 1 = at' k := by omega
            rw [e4, n3, e3, Nat.pow_succ, Nat.add_mul]
            congr 1
            ac_rfl
          rw [eN] at y2 y3
          obtain ⟨v, s', z1, z2, z3, z4⟩ := ih (k + 1) n s1 1 (by omega) (by omega) (hM.mv y4 rfl rfl rfl rfl) (.inr ⟨rfl, by omega, t1, t2, a1, b1, y2, y3⟩)
          refine ⟨v, s', ?_, y4.trans z2, z3, z4⟩
          unfold f210_259
          rw [zi_sub, hdg', y1, zb0_mk, e1, e9, ← n4]
          exact z1
        rcases hI with ⟨rfl, i1, i2⟩ | ⟨rfl, i1, i2, i3, a, b, i4, i5⟩
        · rw [if_neg (not_not_intro rfl)]
          have hv0 : VV 10 l p k = 0 := by
            have := FFV l p k
            omega
          have hte1 : at' k = te - 1 := by omega
          have hVK := FFV l p K
          have hFK : 1 ≤ FF 10 l p K := by
            obtain ⟨m, hm⟩ : ∃ m, K = k + 1 + m := ⟨K - (k + 1), by omega⟩
            have := (FF_more (show 1 ≤ FF 10 l p (k + 1) by omega) m).1
            rw [← hm] at this
            exact this
          by_cases g1 : at' k ≤ 400
          · rw [if_pos (zle (by omega))]
            unfold f210_244
            rw [if_neg (not_not_intro rfl)]
            by_cases g2 : -400 ≤ at' k
            · rw [if_pos (zge (by omega))]
              exact add (by omega) (by omega) ⟨45, 45, by rw [hv0, Nat.zero_mul]; exact i2, .inl ⟨by rw [hv0, Nat.zero_mul], rfl⟩⟩
            · rw [if_neg (znge (by omega))]
              refine ⟨0, s, rfl, fr.refl, i2.D6, ?_⟩
              exact dec_zero hs (by omega) (by omega) (F := FF 10 l p K) (by omega) (by omega)
          · rw [if_neg (znle (by omega)), infs hs]
            exact ⟨_, s, rfl, fr.refl, i2.D6, dec_inf hs (by omega) hFK (by omega) (by omega)⟩
        · rw [if_pos (zne (by omega))]
          unfold f210_244
          rw [if_pos (zne (by omega))]
          exact add i2 i3 ⟨a, b, i4, .inr i5⟩
