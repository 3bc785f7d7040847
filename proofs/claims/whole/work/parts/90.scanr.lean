/-! digits, exponent, suffix: the class -/
/-- c with the bit of the small letters -/
def o32 (c : Int) : Int := if c = -1 then -1 else if c / 32 % 2 = 1 then c else c + 32
theorem or32_all : ∀ c : Nat, c < 129 → zi ((c : Int) - 1) ||| zi 32 = zi (o32 ((c : Int) - 1)) := by decide +kernel
theorem or32 {c : Int} (h1 : -1 ≤ c) (h2 : c ≤ 127) : zi c ||| zi 32 = zi (o32 c) := by
  obtain ⟨k, hk⟩ : ∃ k : Nat, c = (k : Int) - 1 := ⟨(c + 1).toNat, by omega⟩
  subst hk
  exact or32_all k (by omega)
/-- the digit that c is in base b -/
def dgc (b c : Int) : Int := if 48 ≤ c ∧ c ≤ 57 then c - 48 else if b = 16 ∧ 97 ≤ c ∧ c ≤ 102 then c - 87 else if b = 16 ∧ 65 ≤ c ∧ c ≤ 70 then c - 55 else -1
theorem dgc_rng {b c : Int} (hb : b = 10 ∨ b = 16) : -1 ≤ dgc b c ∧ dgc b c < b := by
  unfold dgc
  split
  · omega
  · split
    · omega
    · split <;> omega
theorem dgc_dot (b : Int) : dgc b 46 = -1 := by
  unfold dgc
  rw [if_neg (by omega), if_neg (by omega), if_neg (by omega)]
theorem dgc_m1 (b : Int) : dgc b (-1) = -1 := by
  unfold dgc
  rw [if_neg (by omega), if_neg (by omega), if_neg (by omega)]
theorem f142_eq {b c : Int} (hb : b = 10 ∨ b = 16) (h1 : -1 ≤ c) (h2 : c ≤ 127) (s : zS) : f142 (zi c) (zi b) s = some (zi (dgc b c), s) := by
  have h17 : ¬ (48 ≤ c ∧ c ≤ 57) → f142_17 (zi c) (zi b) s = some (zi (dgc b c), s) := by
    intro hn
    unfold f142_17 dgc
    rw [or32 h1 h2, if_neg hn]
    rcases hb with rfl | rfl
    · rw [if_pos (zne (by omega)), if_neg (by omega), if_neg (by omega)]
    · rw [if_neg (not_not_intro rfl)]
      have ho : o32 c = if c = -1 then -1 else if c / 32 % 2 = 1 then c else c + 32 := rfl
      by_cases q1 : 97 ≤ c ∧ c ≤ 102
      · have e : o32 c = c := by rw [ho, if_neg (by omega), if_pos (by omega)]
        rw [e, if_neg (znlt (by omega)), if_neg (zngt (by omega)), if_pos ⟨rfl, q1⟩, zi_sub, zi_add]
        exact congrArg (fun x => some (zi x, s)) (by omega)
      · by_cases q2 : 65 ≤ c ∧ c ≤ 70
        · have e : o32 c = c + 32 := by rw [ho, if_neg (by omega), if_neg (by omega)]
          rw [e, if_neg (znlt (by omega)), if_neg (zngt (by omega)), if_neg (fun g => q1 g.2), if_pos ⟨rfl, q2⟩, zi_sub, zi_add]
          exact congrArg (fun x => some (zi x, s)) (by omega)
        · have e : -1 ≤ o32 c ∧ o32 c ≤ 160 ∧ (o32 c < 97 ∨ 102 < o32 c) := by
            rw [ho]
            split
            · omega
            · split <;> omega
          rw [if_neg (show ¬ ((16 : Int) = 16 ∧ 97 ≤ c ∧ c ≤ 102) from fun g => q1 g.2), if_neg (show ¬ ((16 : Int) = 16 ∧ 65 ≤ c ∧ c ≤ 70) from fun g => q2 g.2)]
          by_cases q3 : o32 c < 97
          · rw [if_pos (show zi (o32 c) < zi 97 from zlt (by omega))]
          · rw [if_neg (show ¬ zi (o32 c) < zi 97 from znlt (by omega)), if_pos (show zi (o32 c) > zi 102 from zgt (by omega))]
  unfold f142
  by_cases c1 : c < 48
  · rw [if_pos (zlt (by omega))]
    exact h17 (by omega)
  · rw [if_neg (znlt (by omega))]
    by_cases c2 : 57 < c
    · rw [if_pos (zgt (by omega))]
      exact h17 (by omega)
    · rw [if_neg (zngt (by omega)), zi_sub]
      unfold dgc
      rw [if_pos (by omega)]
/-! what the first k bytes from p on say -/
def PT (l : List Int) (p : Nat) : Nat → Nat
  | 0 => 0
  | k + 1 => if atl l (p + k : Nat) = 46 then 1 else PT l p k
def ND (l : List Int) (p : Nat) : Nat → Nat
  | 0 => 0
  | k + 1 => if atl l (p + k : Nat) = 46 then ND l p k else ND l p k + 1
def NB (l : List Int) (p : Nat) : Nat → Nat
  | 0 => 0
  | k + 1 => if atl l (p + k : Nat) = 46 then NB l p k else NB l p k + PT l p k
def FF (b : Int) (l : List Int) (p : Nat) : Nat → Nat
  | 0 => 0
  | k + 1 => if atl l (p + k : Nat) = 46 then FF b l p k else if 0 < dgc b (atl l (p + k : Nat)) ∨ 0 < FF b l p k then FF b l p k + 1 else FF b l p k
def VV (b : Int) (l : List Int) (p : Nat) : Nat → Nat
  | 0 => 0
  | k + 1 => if atl l (p + k : Nat) = 46 then VV b l p k else b.toNat * VV b l p k + (dgc b (atl l (p + k : Nat))).toNat
/-- the byte k is a digit or the first point -/
def GO (b : Int) (l : List Int) (e p k : Nat) : Prop := p + k < e ∧ (0 ≤ dgc b (atl l (p + k : Nat)) ∨ (atl l (p + k : Nat) = 46 ∧ PT l p k = 0))
def STP (b : Int) (l : List Int) (e p K : Nat) : Prop := (∀ k, k < K → GO b l e p k) ∧ ¬ GO b l e p K
theorem STP.uniq {b : Int} {l : List Int} {e p K K' : Nat} (h : STP b l e p K) (g : STP b l e p K') : K = K' := by
  rcases Nat.lt_trichotomy K K' with c | c | c
  · exact absurd (g.1 K c) h.2
  · exact c
  · exact absurd (h.1 K' c) g.2
theorem STP.le {b : Int} {l : List Int} {e p K : Nat} (h : STP b l e p K) (hp : p ≤ e) : p + K ≤ e := by
  rcases Nat.eq_zero_or_pos K with c | c
  · omega
  · have := (h.1 (K - 1) (by omega)).1
    omega
theorem PT_bit (l : List Int) (p : Nat) : ∀ k, PT l p k = 0 ∨ PT l p k = 1
  | 0 => .inl rfl
  | k + 1 => by
    show (if atl l (p + k : Nat) = 46 then 1 else PT l p k) = 0 ∨ (if atl l (p + k : Nat) = 46 then 1 else PT l p k) = 1
    split
    · exact .inr rfl
    · exact PT_bit l p k
theorem ND_le (l : List Int) (p : Nat) : ∀ k, ND l p k ≤ k
  | 0 => Nat.le_refl _
  | k + 1 => by
    show (if atl l (p + k : Nat) = 46 then ND l p k else ND l p k + 1) ≤ k + 1
    have := ND_le l p k
    split <;> omega
theorem NB_le (l : List Int) (p : Nat) : ∀ k, NB l p k ≤ ND l p k
  | 0 => Nat.le_refl _
  | k + 1 => by
    show (if atl l (p + k : Nat) = 46 then NB l p k else NB l p k + PT l p k) ≤ (if atl l (p + k : Nat) = 46 then ND l p k else ND l p k + 1)
    have h1 := NB_le l p k
    have h2 := PT_bit l p k
    split <;> omega
theorem FF_le (b : Int) (l : List Int) (p : Nat) : ∀ k, FF b l p k ≤ ND l p k
  | 0 => Nat.le_refl _
  | k + 1 => by
    show (if atl l (p + k : Nat) = 46 then FF b l p k else if 0 < dgc b (atl l (p + k : Nat)) ∨ 0 < FF b l p k then FF b l p k + 1 else FF b l p k) ≤ (if atl l (p + k : Nat) = 46 then ND l p k else ND l p k + 1)
    have h1 := FF_le b l p k
    split
    · omega
    · split <;> omega
theorem VV_lt {b : Int} (hb : b = 10 ∨ b = 16) (l : List Int) (p : Nat) : ∀ k, VV b l p k < b.toNat ^ ND l p k
  | 0 => by show 0 < b.toNat ^ 0; rw [Nat.pow_zero]; decide
  | k + 1 => by
    show (if atl l (p + k : Nat) = 46 then VV b l p k else b.toNat * VV b l p k + (dgc b (atl l (p + k : Nat))).toNat) < b.toNat ^ (if atl l (p + k : Nat) = 46 then ND l p k else ND l p k + 1)
    have h1 := VV_lt hb l p k
    have h2 := dgc_rng (b := b) (c := atl l (p + k : Nat)) hb
    split
    · exact h1
    · rw [Nat.pow_succ]
      have h3 : b.toNat * (VV b l p k + 1) ≤ b.toNat * b.toNat ^ ND l p k := Nat.mul_le_mul_left _ h1
      rw [Nat.mul_add, Nat.mul_one] at h3
      rw [Nat.mul_comm (b.toNat ^ ND l p k)]
      omega
theorem VV_big {b : Int} (hb : b = 10 ∨ b = 16) (l : List Int) (p : Nat) {k : Nat} (hk : k ≤ 800) : VV b l p k < 2 ^ 3200 := by
  have h1 := VV_lt hb l p k
  have h2 := ND_le l p k
  refine Nat.lt_of_lt_of_le h1 ?_
  have h3 : b.toNat ^ ND l p k ≤ 16 ^ ND l p k := Nat.pow_le_pow_left (by omega) _
  have h4 : 16 ^ ND l p k ≤ 16 ^ 800 := Nat.pow_le_pow_right (by decide) (by omega)
  have h5 : (16 : Nat) ^ 800 = 2 ^ 3200 := by
    have e : (16 : Nat) = 2 ^ 4 := by decide
    rw [e, ← Nat.pow_mul]
  rw [← h5]
  exact Nat.le_trans h3 h4
/-! countDigit -/
theorem f141_eq {s : zS} {dg : Int} {pt n nb ff : Nat} (hd1 : 0 ≤ dg) (hd2 : dg < 16) (hpt : pt = 0 ∨ pt = 1) (h6 : s.1 21 6 = zi n) (h7 : s.1 21 7 = zi nb) (h8 : s.1 21 8 = zi ff) (hff : ff ≤ 1000) :
    ∃ s', f141 (zi dg) (zi pt) s = some s' ∧ s'.1 21 6 = zi (n + 1 : Nat) ∧ s'.1 21 7 = zi (nb + pt : Nat) ∧ s'.1 21 8 = zi ((if 0 < dg ∨ 0 < ff then ff + 1 else ff : Nat) : Int) ∧ kp [21] [6, 7, 8] s s' := by
  have h24 : ∀ y : Nat, f141_24 (zi dg) (zi (nb : Int)) (zi (y : Int)) (setI s 21 6 (zi (n + 1 : Nat))) = some (setI (setI (setI s 21 6 (zi (n + 1 : Nat))) 21 7 (zi ((nb + y : Nat) : Int))) 21 8 (zi ((if 0 < dg ∨ 0 < ff then ff + 1 else ff : Nat) : Int))) := by
    intro y
    unfold f141_24
    have e8 : (setI s 21 6 (zi (n + 1 : Nat))).1 21 8 = zi ff := h8
    have e1 : zi (ff : Int) + zi 1 = zi ((ff + 1 : Nat) : Int) := zi_add _ _
    have e0 : zi (ff : Int) + zi 0 = zi (ff : Int) := by rw [zi_add, Int.add_zero]
    have ey : zi (nb : Int) + zi (y : Int) = zi ((nb + y : Nat) : Int) := zi_add _ _
    rw [e8, e1, e0, ey]
    by_cases c : 0 < dg
    · rw [if_pos (zgt (by omega)), if_pos (.inl c)]
    · rw [if_neg (zngt (by omega))]
      by_cases c2 : 0 < ff
      · rw [if_neg (znle (by omega)), if_pos (.inr c2)]
      · rw [if_pos (zle (by omega)), if_neg (by omega)]
  refine ⟨setI (setI (setI s 21 6 (zi (n + 1 : Nat))) 21 7 (zi ((nb + pt : Nat) : Int))) 21 8 (zi ((if 0 < dg ∨ 0 < ff then ff + 1 else ff : Nat) : Int)), ?_, rfl, rfl, rfl, ((kp.refl.sI rfl rfl).sI rfl rfl).sI rfl rfl⟩
  unfold f141
  have e6 : zi (n : Int) + zi 1 = zi ((n + 1 : Nat) : Int) := zi_add _ _
  rw [h6, h7, e6]
  rcases hpt with rfl | rfl
  · rw [if_pos zi0e]
    exact h24 0
  · rw [if_neg (zne (by omega))]
    exact h24 1
/-! takeDigits -/
def TG (B u : Nat) : Prop := u = 0 ∨ 2 ^ (32 * (u - 1)) ≤ B
theorem TG.grow {B u m k u' : Nat} (h : TG B u) (hm : 1 ≤ m) (g : u' = u ∨ (u' = u + 1 ∧ 2 ^ (32 * u) ≤ m * B + k)) : TG (m * B + k) u' := by
  rcases g with rfl | ⟨rfl, g⟩
  · rcases h with h | h
    · exact .inl h
    · right
      have : 1 * B ≤ m * B := Nat.mul_le_mul_right _ hm
      omega
  · right
    exact g
theorem w_bound {b : Int} {j w : Nat} (hb : b = 10 ∨ b = 16) (hw : w = b.toNat ^ j) (h : w < 100000000) : w * b.toNat ≤ 1300000000 := by
  rcases hb with rfl | rfl
  · show w * 10 ≤ _
    omega
  · show w * 16 ≤ _
    have e : (16 : Int).toNat = 16 := rfl
    rw [e] at hw
    rcases Nat.lt_or_ge j 7 with q | q
    · have : 16 ^ j ≤ 16 ^ 6 := Nat.pow_le_pow_right (by decide) (by omega)
      have e6 : 16 ^ 6 = 16777216 := by decide
      omega
    · have : 16 ^ 7 ≤ 16 ^ j := Nat.pow_le_pow_right (by decide) q
      have e6 : 16 ^ 7 = 268435456 := by decide
      omega
/-- what the class has of the digits -/
def DG (s : zS) (b : Int) (l : List Int) (p k : Nat) : Prop := s.1 21 6 = zi (ND l p k : Nat) ∧ s.1 21 7 = zi (NB l p k : Nat) ∧ s.1 21 8 = zi (FF b l p k : Nat)
theorem f140_137_eq {s : zS} {B u w g : Nat} (h : BN s B u 0 0) (hT : TG B u) (hw1 : 1 ≤ w) (hw : w < 100000000) (hg : g < 4294967296) (hg2 : g < 2147483648) (hb : w * B + g < 2 ^ 4096) : ∃ s' u', f140_137 (zi w) (zi g) s = some s' ∧ BN s' (w * B + g) u' 0 0 ∧ TG (w * B + g) u' ∧ fr [22, 23] [] s s' := by
  obtain ⟨s', u', a1, a2, a3, a4⟩ := f151_eq h (m := w) (k := g) (by omega) hg hb
  refine ⟨s', u', ?_, a2, hT.grow hw1 a4, a3⟩
  unfold f140_137
  rw [zI2L_zi (by omega) (by omega), zI2L_zi (by omega) (by omega), a1]
  rfl
theorem f140_loop {b : Int} (hb : b = 10 ∨ b = 16) {l : List Int} {p e : Nat} : ∀ (d k n : Nat) (s : zS) (w g B u j : Nat), d + p + k = e → d < n → (∀ i, i < k → GO b l e p i) → CT s l (p + k) e → DG s b l p k → BN s B u 0 0 → TG B u → w * B + g = VV b l p k → w = b.toNat ^ j → w < 100000000 → g < w →
    ∃ K s' u', f140_29 n (zi b) (zi (PT l p k : Nat)) (zi w) (zi g) s = some s' ∧ STP b l e p K ∧ CT s' l (p + K) e ∧ DG s' b l p K ∧ BN s' (VV b l p K) u' 0 0 ∧ TG (VV b l p K) u' ∧ kp [21, 22, 23] [3, 6, 7, 8] s s' := by
  have hbn : b.toNat = 10 ∨ b.toNat = 16 := by omega
  have hbi : (b.toNat : Int) = b := by omega
  intro d
  induction d with
  | zero =>
    intro k n s w g B u j hd hn hgo hC hD hB hT hv hwj hw hg
    obtain ⟨n, rfl⟩ : ∃ k, n = k + 1 := ⟨n - 1, by omega⟩
    have hl := hC.len
    have h5 := hC.2.2.2.2
    have hw1 : 1 ≤ w := by omega
    have hvb : w * B + g < 2 ^ 4096 := by
      rw [hv]
      exact Nat.lt_of_lt_of_le (VV_big hb l p (by omega)) (Nat.pow_le_pow_right (by decide) (by omega))
    obtain ⟨s', u', a1, a2, a3, a4⟩ := f140_137_eq hB hT hw1 hw (by omega) (by omega) hvb
    rw [hv] at a2 a3
    have hk : kp [22, 23] [] s s' := kp.of a4 rfl []
    refine ⟨k, s', u', ?_, ⟨hgo, fun q => ?_⟩, hC.stay hk rfl rfl rfl rfl, ⟨(hk.2 6 rfl).trans hD.1, (hk.2 7 rfl).trans hD.2.1, (hk.2 8 rfl).trans hD.2.2⟩, a2, a3, hk.up rfl rfl⟩
    · show b140_29 (f140_29 n) _ _ _ _ _ = _
      unfold b140_29
      rw [hC.2.2.1, hC.2.2.2.1, if_pos (zge (by omega))]
      exact a1
    · have := q.1
      omega
  | succ d ih =>
    intro k n s w g B u j hd hn hgo hC hD hB hT hv hwj hw hg
    obtain ⟨n, rfl⟩ : ∃ k, n = k + 1 := ⟨n - 1, by omega⟩
    have hl := hC.len
    have h5 := hC.2.2.2.2
    have hw1 : 1 ≤ w := by omega
    have hpk : p + k < e := by omega
    have hch : ch l e (p + k) = atl l (p + k : Nat) := if_pos hpk
    have hr := atl_asc_range hC.2.1 ((p + k : Nat) : Int)
    have hdr := dgc_rng (b := b) (c := atl l (p + k : Nat)) hb
    have hpt := PT_bit l p k
    have hndle := ND_le l p k
    have hnb := NB_le l p k
    have hff := FF_le b l p k
    have h137 : f137 s = some (zi (atl l (p + k : Nat)), s) := by rw [← hch]; exact f137_eq hC (by omega)
    have h142 : f142 (zi (atl l (p + k : Nat))) (zi b) s = some (zi (dgc b (atl l (p + k : Nat))), s) := f142_eq hb hr.1 hr.2 s
    -- the end
    have stop : ¬ GO b l e p k → ∃ K s' u', f140_137 (zi w) (zi g) s = some s' ∧ STP b l e p K ∧ CT s' l (p + K) e ∧ DG s' b l p K ∧ BN s' (VV b l p K) u' 0 0 ∧ TG (VV b l p K) u' ∧ kp [21, 22, 23] [3, 6, 7, 8] s s' := by
      intro q
      have hvb : w * B + g < 2 ^ 4096 := by
        rw [hv]
        exact Nat.lt_of_lt_of_le (VV_big hb l p (by omega)) (Nat.pow_le_pow_right (by decide) (by omega))
      obtain ⟨s', u', a1, a2, a3, a4⟩ := f140_137_eq hB hT hw1 hw (by omega) (by omega) hvb
      rw [hv] at a2 a3
      have hk : kp [22, 23] [] s s' := kp.of a4 rfl []
      exact ⟨k, s', u', a1, ⟨hgo, q⟩, hC.stay hk rfl rfl rfl rfl, ⟨(hk.2 6 rfl).trans hD.1, (hk.2 7 rfl).trans hD.2.1, (hk.2 8 rfl).trans hD.2.2⟩, a2, a3, hk.up rfl rfl⟩
    have body : f140_29 (n + 1) (zi b) (zi (PT l p k : Nat)) (zi w) (zi g) s = if zi (dgc b (atl l (p + k : Nat))) ≥ zi 0 then f140_71 (f140_29 n) (zi b) (zi (PT l p k : Nat)) (zi w) (zi g) (zi (dgc b (atl l (p + k : Nat)))) s else if ¬ zi (PT l p k : Nat) = zi 0 then f140_137 (zi w) (zi g) s else if zi (atl l (p + k : Nat)) = zi 46 then f140_71 (f140_29 n) (zi b) (zi (PT l p k : Nat)) (zi w) (zi g) (zi (dgc b (atl l (p + k : Nat)))) s else f140_137 (zi w) (zi g) s := by
      show b140_29 (f140_29 n) _ _ _ _ _ = _
      unfold b140_29
      rw [hC.2.2.1, hC.2.2.2.1, if_neg (znge (by omega)), h137, zb1_mk, h142, zb1_mk, h137, zb1_mk]
    rw [body]
    by_cases c : 0 ≤ dgc b (atl l (p + k : Nat))
    · -- a digit
      have hnd : atl l (p + k : Nat) ≠ 46 := fun q => by rw [q, dgc_dot] at c; omega
      rw [if_pos (zge (by omega))]
      obtain ⟨s1, b1, b6, b7, b8, b9⟩ := f141_eq c (by omega) hpt hD.1 hD.2.1 hD.2.2 (by omega)
      have hD1 : DG s1 b l p (k + 1) := by
        refine ⟨?_, ?_, ?_⟩
        · rw [b6]; exact congrArg (fun x : Nat => zi (x : Int)) (if_neg hnd).symm
        · rw [b7]; exact congrArg (fun x : Nat => zi (x : Int)) (if_neg hnd).symm
        · rw [b8]; exact congrArg (fun x : Nat => zi (x : Int)) (if_neg hnd).symm
      have hPT : PT l p (k + 1) = PT l p k := if_neg hnd
      have hVV : VV b l p (k + 1) = b.toNat * VV b l p k + (dgc b (atl l (p + k : Nat))).toNat := if_neg hnd
      have hgo' : ∀ i, i < k + 1 → GO b l e p i := fun i hi => by
        by_cases q : i = k
        · subst q; exact ⟨hpk, .inl c⟩
        · exact hgo i (by omega)
      have hB1 : BN s1 B u 0 0 := hB.mv b9.1 rfl rfl
      have ewb : zi (w : Int) * zi b = zi ((w * b.toNat : Nat) : Int) := by
        rw [zi_mul, Int.natCast_mul, hbi]
      have egb : zi (g : Int) * zi b + zi (dgc b (atl l (p + k : Nat))) = zi ((g * b.toNat + (dgc b (atl l (p + k : Nat))).toNat : Nat) : Int) := by
        rw [zi_mul, zi_add]
        refine congrArg zi ?_
        clear h142 body
        generalize dgc b (atl l (p + k : Nat)) = dg at c ⊢
        rw [Int.natCast_add, Int.natCast_mul, hbi, Int.toNat_of_nonneg c]
      have hwb := w_bound hb hwj hw
      have hgw : g * b.toNat + (dgc b (atl l (p + k : Nat))).toNat < w * b.toNat := by
        have : (g + 1) * b.toNat ≤ w * b.toNat := Nat.mul_le_mul_right _ hg
        rw [Nat.add_mul, Nat.one_mul] at this
        omega
      have hvv : w * b.toNat * B + (g * b.toNat + (dgc b (atl l (p + k : Nat))).toNat) = VV b l p (k + 1) := by
        rw [hVV, ← hv, Nat.mul_add, ← Nat.mul_assoc, Nat.mul_comm b.toNat w, Nat.mul_comm b.toNat g, Nat.add_assoc]
      have e71 : f140_71 (f140_29 n) (zi b) (zi (PT l p k : Nat)) (zi w) (zi g) (zi (dgc b (atl l (p + k : Nat)))) s = if zi ((w * b.toNat : Nat) : Int) < zi 100000000 then f140_124 (f140_29 n) (zi b) (zi (PT l p k : Nat)) (zi ((w * b.toNat : Nat) : Int)) (zi ((g * b.toNat + (dgc b (atl l (p + k : Nat))).toNat : Nat) : Int)) s1 else zb0 (f151 (zI2L (zi ((w * b.toNat : Nat) : Int))) (zI2L (zi ((g * b.toNat + (dgc b (atl l (p + k : Nat))).toNat : Nat) : Int))) s1) (fun s2 => f140_124 (f140_29 n) (zi b) (zi (PT l p k : Nat)) (zi 1) (zi 0) s2) := by
        unfold f140_71
        rw [if_pos (zge (by omega)), b1, zb0_mk, ewb, egb]
      rw [e71]
      generalize hG : g * b.toNat + (dgc b (atl l (p + k : Nat))).toNat = g' at *
      generalize hW : w * b.toNat = w' at *
      have hwj' : w' = b.toNat ^ (j + 1) := by rw [← hW, Nat.pow_succ, hwj]
      have step : ∀ (s2 : zS), kp [21, 22, 23] [6, 7, 8] s s2 → CT (setI s2 21 3 (zi ((p + (k + 1) : Nat) : Int))) l (p + (k + 1)) e ∧ s2.1 21 3 + zi 1 = zi ((p + (k + 1) : Nat) : Int) := by
        intro s2 h2
        have hk : kp [21, 22, 23] [3, 6, 7, 8] s (setI s2 21 3 (zi ((p + (k + 1) : Nat) : Int))) := (h2.up rfl rfl).sI rfl rfl
        refine ⟨hC.go hk rfl rfl rfl rfl, ?_⟩
        rw [h2.2 3 rfl, hC.2.2.1, zi_add]
        exact congrArg zi (by omega)
      by_cases c2 : w' < 100000000
      · rw [if_pos (zlt (by omega))]
        obtain ⟨t1, t2⟩ := step s1 (b9.up rfl rfl)
        obtain ⟨K, s', u', a1, a2, a3, a4, a5, a6, a7⟩ := ih (k + 1) n (setI s1 21 3 (zi ((p + (k + 1) : Nat) : Int))) w' g' B u (j + 1) (by omega) (by omega) hgo' t1 hD1 hB1 hT hvv hwj' c2 hgw
        rw [hPT] at a1
        refine ⟨K, s', u', ?_, a2, a3, a4, a5, a6, ((b9.up rfl rfl).sI rfl rfl).trans a7⟩
        unfold f140_124
        rw [t2]
        exact a1
      · rw [if_neg (znlt (by omega)), zI2L_zi (by omega) (by omega), zI2L_zi (by omega) (by omega)]
        have hvb : w' * B + g' < 2 ^ 4096 := by
          rw [hvv]
          exact Nat.lt_of_lt_of_le (VV_big hb l p (by omega)) (Nat.pow_le_pow_right (by decide) (by omega))
        obtain ⟨s2, u2, x1, x2, x3, x4⟩ := f151_eq hB1 (m := w') (k := g') (by omega) (by omega) hvb
        have hk2 : kp [21, 22, 23] [6, 7, 8] s s2 := (b9.up rfl rfl).trans ((kp.of x3 rfl []).up rfl rfl)
        have hks : kp [22, 23] [] s1 s2 := kp.of x3 rfl []
        obtain ⟨t1, t2⟩ := step s2 hk2
        have hT2 : TG (w' * B + g') u2 := hT.grow (by omega) x4
        obtain ⟨K, s', u', a1, a2, a3, a4, a5, a6, a7⟩ := ih (k + 1) n (setI s2 21 3 (zi ((p + (k + 1) : Nat) : Int))) 1 0 (w' * B + g') u2 0 (by omega) (by omega) hgo' t1 ⟨(hks.2 6 rfl).trans hD1.1, (hks.2 7 rfl).trans hD1.2.1, (hks.2 8 rfl).trans hD1.2.2⟩ x2 hT2 (by rw [Nat.one_mul, Nat.add_zero]; exact hvv) (by rw [Nat.pow_zero]) (by omega) (by omega)
        rw [hPT] at a1
        refine ⟨K, s', u', ?_, a2, a3, a4, a5, a6, ((hk2.up rfl rfl).sI rfl rfl).trans a7⟩
        rw [x1, zb0_mk]
        unfold f140_124
        rw [t2]
        exact a1
    · rw [if_neg (znge (by omega))]
      by_cases c2 : PT l p k = 0
      · rw [c2, if_neg zi00]
        by_cases c3 : atl l (p + k : Nat) = 46
        · -- the point
          rw [if_pos (zeq c3)]
          have e71 : f140_71 (f140_29 n) (zi b) (zi ((0 : Nat) : Int)) (zi w) (zi g) (zi (dgc b (atl l (p + k : Nat)))) s = f140_124 (f140_29 n) (zi b) (zi 1) (zi w) (zi g) s := by
            unfold f140_71
            rw [if_neg (znge (by omega))]
          have hk0 : kp [21] [3] s (setI s 21 3 (zi ((p + (k + 1) : Nat) : Int))) := kp.refl.sI rfl rfl
          have hk : kp [21, 22, 23] [3, 6, 7, 8] s (setI s 21 3 (zi ((p + (k + 1) : Nat) : Int))) := hk0.up rfl rfl
          have hgo' : ∀ i, i < k + 1 → GO b l e p i := fun i hi => by
            by_cases q : i = k
            · subst q; exact ⟨hpk, .inr ⟨c3, c2⟩⟩
            · exact hgo i (by omega)
          have hPT : PT l p (k + 1) = 1 := if_pos c3
          have hD1 : DG (setI s 21 3 (zi ((p + (k + 1) : Nat) : Int))) b l p (k + 1) := by
            refine ⟨?_, ?_, ?_⟩
            · exact hD.1.trans (congrArg (fun x : Nat => zi (x : Int)) (if_pos c3).symm)
            · exact hD.2.1.trans (congrArg (fun x : Nat => zi (x : Int)) (if_pos c3).symm)
            · exact hD.2.2.trans (congrArg (fun x : Nat => zi (x : Int)) (if_pos c3).symm)
          have hVV : VV b l p (k + 1) = VV b l p k := if_pos c3
          obtain ⟨K, s', u', a1, a2, a3, a4, a5, a6, a7⟩ := ih (k + 1) n (setI s 21 3 (zi ((p + (k + 1) : Nat) : Int))) w g B u j (by omega) (by omega) hgo' (hC.go hk rfl rfl rfl rfl) hD1 (hB.mv hk0.1 rfl rfl) hT (by rw [hVV]; exact hv) hwj hw hg
          rw [hPT] at a1
          refine ⟨K, s', u', ?_, a2, a3, a4, a5, a6, hk.trans a7⟩
          rw [e71]
          unfold f140_124
          have e3 : s.1 21 3 + zi 1 = zi ((p + (k + 1) : Nat) : Int) := by
            rw [hC.2.2.1, zi_add]
            exact congrArg zi (by omega)
          rw [e3]
          exact a1
        · rw [if_neg (zne (by omega))]
          exact stop (fun q => q.2.elim c (fun q => c3 q.1))
      · rw [if_pos (zne (by omega))]
        exact stop (fun q => q.2.elim c (fun q => c2 q.2))
theorem f140_eq {b : Int} (hb : b = 10 ∨ b = 16) {s : zS} {l : List Int} {p e : Nat} (hC : CT s l p e) (hp : p ≤ e) : ∃ K s' u', f140 (zi b) s = some s' ∧ STP b l e p K ∧ CT s' l (p + K) e ∧ DG s' b l p K ∧ BN s' (VV b l p K) u' 0 0 ∧ TG (VV b l p K) u' ∧ kp [21, 22, 23] [3, 6, 7, 8] s s' := by
  have hl := hC.len
  have h5 := hC.2.2.2.2
  obtain ⟨s1, a1, a2, a3⟩ := f150_eq s
  have hk1 : kp [21, 22, 23] [3, 6, 7, 8] s s1 := (kp.of a3 rfl []).up rfl rfl
  have hk : kp [21, 22, 23] [3, 6, 7, 8] s (setI (setI (setI s1 21 6 (zi 0)) 21 7 (zi 0)) 21 8 (zi 0)) := ((hk1.sI rfl rfl).sI rfl rfl).sI rfl rfl
  have h3 : (setI (setI (setI s1 21 6 (zi 0)) 21 7 (zi 0)) 21 8 (zi 0)).1 21 3 = zi ((p + 0 : Nat) : Int) := ((kp.of a3 rfl []).2 3 rfl).trans hC.2.2.1
  obtain ⟨K, s', u', b1, b2, b3, b4, b5, b6, b7⟩ := f140_loop hb (p := p) (e - p) 0 zF (setI (setI (setI s1 21 6 (zi 0)) 21 7 (zi 0)) 21 8 (zi 0)) 1 0 0 0 0 (by omega) (by unfold zF; omega) (fun i hi => by omega) (hC.go hk rfl rfl rfl h3) ⟨rfl, rfl, rfl⟩ a2 (.inl rfl) rfl (by rw [Nat.pow_zero]) (by omega) (by omega)
  refine ⟨K, s', u', ?_, b2, b3, b4, b5, b6, hk.trans b7⟩
  unfold f140
  rw [a1, zb0_mk]
  exact b1
/-! the exponent -/
def EV (l : List Int) (r : Nat) : Nat → Int
  | 0 => 0
  | j + 1 => min (EV l r j * 10 + (atl l (r + j : Nat) - 48)) 100000
def DGO (l : List Int) (e r j : Nat) : Prop := r + j < e ∧ 48 ≤ atl l (r + j : Nat) ∧ atl l (r + j : Nat) ≤ 57
def DST (l : List Int) (e r J : Nat) : Prop := (∀ j, j < J → DGO l e r j) ∧ ¬ DGO l e r J
theorem DST.le {l : List Int} {e r J : Nat} (h : DST l e r J) (hr : r ≤ e) : r + J ≤ e := by
  rcases Nat.eq_zero_or_pos J with c | c
  · omega
  · have := (h.1 (J - 1) (by omega)).1
    omega
theorem EV_rng {l : List Int} {e r : Nat} : ∀ j, (∀ i, i < j → DGO l e r i) → 0 ≤ EV l r j ∧ EV l r j ≤ 100000
  | 0, _ => by show (0 : Int) ≤ 0 ∧ (0 : Int) ≤ 100000; omega
  | j + 1, h => by
    have h1 := EV_rng j (fun i hi => h i (by omega))
    have h2 := (h j (by omega)).2
    show 0 ≤ min (EV l r j * 10 + (atl l (r + j : Nat) - 48)) 100000 ∧ min (EV l r j * 10 + (atl l (r + j : Nat) - 48)) 100000 ≤ 100000
    omega
theorem dgc10 (c : Int) : dgc 10 c = if 48 ≤ c ∧ c ≤ 57 then c - 48 else -1 := by
  unfold dgc
  split
  · rfl
  · rw [if_neg (by omega), if_neg (by omega)]
theorem f143_loop {x2 x3 : Int32} {l : List Int} {r e : Nat} : ∀ (d j n : Nat) (s : zS), d + r + j = e → d < n → (∀ i, i < j → DGO l e r i) → CT s l (r + j) e → s.1 21 9 = zi (EV l r j) →
    ∃ J s', f143_56 n x2 x3 s = f143_118 x2 x3 s' ∧ DST l e r J ∧ CT s' l (r + J) e ∧ s'.1 21 9 = zi (EV l r J) ∧ kp [21] [3, 9] s s' := by
  intro d
  induction d with
  | zero =>
    intro j n s hd hn hgo hC h9
    obtain ⟨n, rfl⟩ : ∃ k, n = k + 1 := ⟨n - 1, by omega⟩
    have hl := hC.len
    have h5 := hC.2.2.2.2
    refine ⟨j, s, ?_, ⟨hgo, fun q => by have := q.1; omega⟩, hC, h9, kp.refl⟩
    show b143_56 (f143_56 n) _ _ _ = _
    unfold b143_56
    rw [hC.2.2.1, hC.2.2.2.1, if_pos (zge (by omega))]
  | succ d ih =>
    intro j n s hd hn hgo hC h9
    obtain ⟨n, rfl⟩ : ∃ k, n = k + 1 := ⟨n - 1, by omega⟩
    have hl := hC.len
    have h5 := hC.2.2.2.2
    have hrj : r + j < e := by omega
    have hch : ch l e (r + j) = atl l (r + j : Nat) := if_pos hrj
    have hr := atl_asc_range hC.2.1 ((r + j : Nat) : Int)
    have hev := EV_rng j hgo
    have h137 : f137 s = some (zi (atl l (r + j : Nat)), s) := by rw [← hch]; exact f137_eq hC (by omega)
    have h142 : f142 (zi (atl l (r + j : Nat))) (zi 10) s = some (zi (dgc 10 (atl l (r + j : Nat))), s) := f142_eq (.inl rfl) hr.1 hr.2 s
    have hdr := dgc_rng (b := 10) (c := atl l (r + j : Nat)) (.inl rfl)
    have e3 : zi ((r + j : Nat) : Int) + zi 1 = zi ((r + (j + 1) : Nat) : Int) := zi_add _ _
    have e9 : r265 (zi (EV l r j) * zi 10 + zi (dgc 10 (atl l (r + j : Nat)))) (zi 100000) s = zi (min (EV l r j * 10 + dgc 10 (atl l (r + j : Nat))) 100000) := by
      rw [zi_mul, zi_add, r265_min (by omega) (by omega) (by omega) (by omega)]
    have body : f143_56 (n + 1) x2 x3 s = if zi (dgc 10 (atl l (r + j : Nat))) < zi 0 then f143_118 x2 x3 s else f143_56 n x2 x3 (setI (setI s 21 9 (zi (min (EV l r j * 10 + dgc 10 (atl l (r + j : Nat))) 100000))) 21 3 (zi ((r + (j + 1) : Nat) : Int))) := by
      show b143_56 (f143_56 n) _ _ _ = _
      unfold b143_56
      rw [hC.2.2.1, hC.2.2.2.1, if_neg (znge (by omega)), h137, zb1_mk, h142, zb1_mk, h137, zb1_mk, h142, zb1_mk, h9, e9, hC.2.2.1, e3]
    rw [body]
    by_cases c : 48 ≤ atl l (r + j : Nat) ∧ atl l (r + j : Nat) ≤ 57
    · have ed : dgc 10 (atl l (r + j : Nat)) = atl l (r + j : Nat) - 48 := by rw [dgc10, if_pos c]
      rw [ed, if_neg (znlt (by omega))]
      have hk : kp [21] [3, 9] s (setI (setI s 21 9 (zi (min (EV l r j * 10 + (atl l (r + j : Nat) - 48)) 100000))) 21 3 (zi ((r + (j + 1) : Nat) : Int))) := (kp.refl.sI rfl rfl).sI rfl rfl
      obtain ⟨J, s', a1, a2, a3, a4, a5⟩ := ih (j + 1) n _ (by omega) (by omega) (fun i hi => by
        by_cases q : i = j
        · subst q; exact ⟨hrj, c⟩
        · exact hgo i (by omega)) (hC.go hk rfl rfl rfl rfl) rfl
      exact ⟨J, s', a1, a2, a3, a4, hk.trans a5⟩
    · have ed : dgc 10 (atl l (r + j : Nat)) = -1 := by rw [dgc10, if_neg c]
      rw [ed, if_pos (zlt (by omega))]
      exact ⟨j, s, rfl, ⟨hgo, fun q => c q.2⟩, hC, h9, kp.refl⟩
def isE (h c : Int) : Prop := (h = 0 ∧ (c = 101 ∨ c = 69)) ∨ (h = 1 ∧ (c = 112 ∨ c = 80))
def EXPO (l : List Int) (e : Nat) (h : Int) (q : Nat) (y ex : Int) (q' : Nat) : Prop := (isE h (ch l e q) ∧ ∃ J, DST l e (sg l e (q + 1)) J ∧ q' = sg l e (q + 1) + J ∧ ex = (if ng l e (q + 1) = 0 then EV l (sg l e (q + 1)) J else -EV l (sg l e (q + 1)) J) ∧ y = if J = 0 then 0 else 1) ∨ (¬ isE h (ch l e q) ∧ q' = q ∧ ex = 0 ∧ y = 1 - h)
theorem o32_is {c t : Int} (h1 : -1 ≤ c) (h2 : c ≤ 127) (t1 : 97 ≤ t) (t2 : t ≤ 122) : o32 c = t ↔ c = t ∨ c = t - 32 := by
  unfold o32
  split
  · omega
  · split <;> omega
theorem o32_rng {c : Int} (h1 : -1 ≤ c) (h2 : c ≤ 127) : -1 ≤ o32 c ∧ o32 c ≤ 160 := by
  unfold o32
  split
  · omega
  · split <;> omega
theorem ch_in {l : List Int} {e p : Nat} (h : 0 ≤ ch l e p) : p < e := by
  rcases Nat.lt_or_ge p e with q | q
  · exact q
  · unfold ch at h
    rw [if_neg (by omega)] at h
    omega
theorem EXPO.rng {l : List Int} {e : Nat} {h : Int} {q : Nat} {y ex : Int} {q' : Nat} (g : EXPO l e h q y ex q') (hq : q ≤ e) : q' ≤ e ∧ -100000 ≤ ex ∧ ex ≤ 100000 := by
  rcases g with ⟨g1, J, g2, g3, g4, g5⟩ | ⟨g1, g2, g3, g4⟩
  · have hin : q < e := ch_in (l := l) (by unfold isE at g1; omega)
    have h1 := sg_le (l := l) (e := e) (p := q + 1) (by omega)
    have h2 := g2.le (by omega)
    have h3 := EV_rng J g2.1
    refine ⟨by omega, ?_⟩
    rw [g4]
    split <;> omega
  · omega
theorem f143_eq {s : zS} {l : List Int} {q e : Nat} {h : Int} (hh : h = 0 ∨ h = 1) (hC : CT s l q e) (hq : q ≤ e) : ∃ y ex q' s', f143 (zi h) s = some (zi y, s') ∧ EXPO l e h q y ex q' ∧ CT s' l q' e ∧ s'.1 21 9 = zi ex ∧ kp [21] [3, 9] s s' := by
  have hl := hC.len
  have h5 := hC.2.2.2.2
  have hr := ch_rng hC.2.1 e q
  have ho := o32_rng hr.1 hr.2
  have hk0 : kp [21] [3, 9] s (setI s 21 9 (zi 0)) := kp.refl.sI rfl rfl
  have hC0 : CT (setI s 21 9 (zi 0)) l q e := hC.go hk0 rfl rfl rfl hC.2.2.1
  -- both letters
  have main : ∀ t : Int, 97 ≤ t → t ≤ 122 → (isE h (ch l e q) ↔ ch l e q = t ∨ ch l e q = t - 32) → ∃ y ex q' s', f143_23 (zi h) (zi (o32 (ch l e q))) (zi t) (setI s 21 9 (zi 0)) = some (zi y, s') ∧ EXPO l e h q y ex q' ∧ CT s' l q' e ∧ s'.1 21 9 = zi ex ∧ kp [21] [3, 9] s s' := by
    intro t t1 t2 hE
    unfold f143_23
    have hoi := o32_is hr.1 hr.2 t1 t2
    by_cases c : isE h (ch l e q)
    · have hin : q < e := ch_in (l := l) (by unfold isE at c; omega)
      rw [if_pos (zeq (hoi.mpr (hE.mp c)))]
      have e3 : (setI s 21 9 (zi 0)).1 21 3 + zi 1 = zi ((q + 1 : Nat) : Int) := by
        rw [hC0.2.2.1]
        exact zi_add _ _
      rw [e3]
      have hk1 : kp [21] [3, 9] s (setI (setI s 21 9 (zi 0)) 21 3 (zi ((q + 1 : Nat) : Int))) := hk0.sI rfl rfl
      obtain ⟨s1, a1, a2, a3⟩ := f138_eq (hC.go hk1 rfl rfl rfl rfl) (by omega : q + 1 ≤ e)
      have hsg := sg_le (l := l) (e := e) (p := q + 1) (by omega)
      have h9 : s1.1 21 9 = zi (EV l (sg l e (q + 1)) 0) := a3.2 9 rfl
      obtain ⟨J, s2, b1, b2, b3, b4, b5⟩ := f143_loop (r := sg l e (q + 1)) (x2 := zi (ng l e (q + 1))) (x3 := zi (sg l e (q + 1) : Nat)) (e - sg l e (q + 1)) 0 zF s1 (by omega) (by unfold zF; omega) (fun i hi => by omega) a2 h9
      have hle := b2.le (by omega)
      have hev := EV_rng J b2.1
      have hfin : ∀ v : Int, f143_135 (zi (sg l e (q + 1) : Nat)) (zi v) s2 = some (zi (if J = 0 then 0 else 1), setI s2 21 9 (zi v)) := by
        intro v
        unfold f143_135
        rw [b3.2.2.1]
        by_cases g : J = 0
        · rw [if_pos (zle (by omega)), if_pos g]
        · rw [if_neg (znle (by omega)), if_neg g]
      have hk2 : kp [21] [3, 9] s s2 := hk1.trans ((a3.up rfl rfl).trans b5)
      have hk3 : ∀ v, kp [21] [3, 9] s2 (setI s2 21 9 v) := fun v => kp.refl.sI rfl rfl
      refine ⟨if J = 0 then 0 else 1, if ng l e (q + 1) = 0 then EV l (sg l e (q + 1)) J else -EV l (sg l e (q + 1)) J, sg l e (q + 1) + J, setI s2 21 9 (zi (if ng l e (q + 1) = 0 then EV l (sg l e (q + 1)) J else -EV l (sg l e (q + 1)) J)), ?_, .inl ⟨c, J, b2, rfl, rfl, rfl⟩, b3.go (hk3 _) rfl rfl rfl b3.2.2.1, rfl, hk2.trans (hk3 _)⟩
      have hs1 : s1.1 21 3 = zi (sg l e (q + 1) : Nat) := a2.2.2.1
      rw [a1, zb1_mk, hs1, b1]
      unfold f143_118
      rcases ng_bit l e (q + 1) with g | g
      · rw [g, if_pos rfl, if_pos rfl, b4]
        exact hfin _
      · rw [g, if_neg (zne (by omega)), if_neg (show ¬ (1 : Int) = 0 by decide), b4, zi_neg]
        exact hfin _
    · rw [if_neg (zne ⟨fun g => c (hE.mpr (hoi.mp g)), by omega, by omega, by omega, by omega⟩)]
      refine ⟨1 - h, 0, q, setI s 21 9 (zi 0), ?_, .inr ⟨c, rfl, rfl, rfl⟩, hC0, rfl, hk0⟩
      rcases hh with rfl | rfl
      · rw [if_neg (not_not_intro rfl)]
        rfl
      · rw [if_pos (zne (by omega))]
        rfl
  unfold f143
  rw [f137_eq hC0 (by omega), zb1_mk, or32 hr.1 hr.2]
  rcases hh with rfl | rfl
  · rw [if_pos rfl]
    exact main 101 (by omega) (by omega) (by unfold isE; omega)
  · rw [if_neg (zne (by omega))]
    exact main 112 (by omega) (by omega) (by unfold isE; omega)
def isS (c : Int) : Prop := c = 102 ∨ c = 70 ∨ c = 100 ∨ c = 68
def AC (l : List Int) (e q : Nat) : Prop := q = e ∨ (q + 1 = e ∧ isS (ch l e q))
theorem f144_eq {s : zS} {l : List Int} {q e : Nat} (hC : CT s l q e) (hq : q ≤ e) : ∃ s' q', f144 s = some s' ∧ CT s' l q' e ∧ (e ≤ q' ↔ AC l e q) ∧ q' ≤ e ∧ kp [21] [3] s s' := by
  have hl := hC.len
  have h5 := hC.2.2.2.2
  have hr := ch_rng hC.2.1 e q
  have ho := o32_rng hr.1 hr.2
  have e1 : s.1 21 3 + zi 1 = zi ((q + 1 : Nat) : Int) := by rw [hC.2.2.1]; exact zi_add _ _
  have hk : kp [21] [3] s (setI s 21 3 (zi ((q + 1 : Nat) : Int))) := kp.refl.sI rfl rfl
  have hC1 := hC.go hk rfl rfl rfl (q := q + 1) rfl
  have i1 := o32_is hr.1 hr.2 (t := 102) (by omega) (by omega)
  have i2 := o32_is hr.1 hr.2 (t := 100) (by omega) (by omega)
  unfold f144
  rw [f137_eq hC (by omega), zb1_mk, or32 hr.1 hr.2, e1]
  have yes : isS (ch l e q) → (e ≤ q + 1 ↔ AC l e q) ∧ q + 1 ≤ e := fun g => by
    have hin : q < e := ch_in (l := l) (by unfold isS at g; omega)
    refine ⟨⟨fun w => .inr ⟨by omega, g⟩, fun w => ?_⟩, by omega⟩
    rcases w with w | w
    · omega
    · omega
  by_cases c1 : o32 (ch l e q) = 102
  · have g : isS (ch l e q) := by unfold isS; omega
    rw [if_pos (zeq c1)]
    exact ⟨_, q + 1, rfl, hC1, (yes g).1, (yes g).2, hk⟩
  · rw [if_neg (zne (by omega))]
    by_cases c2 : o32 (ch l e q) = 100
    · have g : isS (ch l e q) := by unfold isS; omega
      rw [if_neg (not_not_intro (zeq c2))]
      exact ⟨_, q + 1, rfl, hC1, (yes g).1, (yes g).2, hk⟩
    · rw [if_pos (zne (by omega))]
      refine ⟨s, q, rfl, hC, ⟨fun w => .inl (by omega), fun w => ?_⟩, hq, kp.refl⟩
      rcases w with w | w
      · omega
      · have := w.2
        unfold isS at this
        omega
