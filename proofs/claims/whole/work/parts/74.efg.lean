/-! e, f and g of reals: both write alike -/
theorem SV_ex (M : Nat) {X : Int} (hX : -3780 ≤ X) : ∃ N, SV N M X := by
  by_cases c : 0 ≤ X
  · obtain ⟨Y, rfl⟩ : ∃ Y : Nat, X = Y := ⟨X.toNat, by omega⟩
    exact ⟨_, SV.up rfl⟩
  · obtain ⟨Y, rfl⟩ : ∃ Y : Nat, X = -(Y : Int) := ⟨(-X).toNat, by omega⟩
    refine ⟨M * 5 ^ Y * 10 ^ (3780 - Y), SV.dn ?_⟩
    have e1 : (10 : Nat) ^ 3780 = 5 ^ Y * 2 ^ Y * 10 ^ (3780 - Y) := by
      have e9 : Y + (3780 - Y) = 3780 := by omega
      rw [← Nat.mul_pow]
      show 10 ^ 3780 = 10 ^ Y * 10 ^ (3780 - Y)
      rw [← Nat.pow_add, e9]
    rw [e1]
    generalize 10 ^ (3780 - Y) = P
    rw [Nat.mul_right_comm, Nat.mul_assoc M, ← Nat.mul_assoc M (5 ^ Y * 2 ^ Y)]
theorem b1024 : 9007199254740992 * 2 ^ 971 < 10 ^ 309 := by decide +kernel
theorem b1080 : 2 ^ 1080 ≤ 10 ^ 330 := by decide +kernel
theorem VB_of {N M : Nat} {X : Int} (h : SV N M X) (hM : M < 9007199254740992) (h1 : -1080 ≤ X) (h2 : X ≤ 971) : VB N := by
  have e0 : (10 : Nat) ^ 4089 = 10 ^ 309 * 10 ^ 3780 := (Nat.pow_add 10 309 3780)
  have e1 : (10 : Nat) ^ 3780 = 10 ^ 3450 * 10 ^ 330 := (Nat.pow_add 10 3450 330)
  unfold VB
  rw [e0]
  have hh := h (-X).toNat X.toNat (by omega)
  constructor
  · have hb : M * 2 ^ X.toNat < 10 ^ 309 := by
      refine Nat.lt_of_le_of_lt ?_ b1024
      exact Nat.mul_le_mul (by omega) (Nat.pow_le_pow_right (by decide) (by omega))
    have h3 : N ≤ N * 2 ^ (-X).toNat := Nat.le_mul_of_pos_right _ (Nat.pow_pos (by decide))
    refine Nat.lt_of_le_of_lt h3 ?_
    rw [hh]
    exact Nat.mul_lt_mul_of_pos_right hb (p_pos _)
  · by_cases c : M = 0
    · left
      rw [c, Nat.zero_mul, Nat.zero_mul] at hh
      exact (Nat.mul_eq_zero.mp hh).resolve_right (Nat.pos_iff_ne_zero.mp (Nat.pow_pos (by decide)))
    · right
      rcases Nat.lt_or_ge N (10 ^ 3450) with g | g
      · exfalso
        have h4 : 2 ^ (-X).toNat ≤ 10 ^ 330 := Nat.le_trans (Nat.pow_le_pow_right (by decide) (by omega)) b1080
        have h5 : N * 2 ^ (-X).toNat < 10 ^ 3450 * 10 ^ 330 := Nat.lt_of_le_of_lt (Nat.mul_le_mul_left N h4) (Nat.mul_lt_mul_of_pos_right g (p_pos _))
        rw [← e1] at h5
        have h6 : 10 ^ 3780 ≤ M * 2 ^ X.toNat * 10 ^ 3780 := Nat.le_mul_of_pos_left _ (Nat.mul_pos (by omega) (Nat.pow_pos (by decide)))
        rw [hh] at h5
        exact absurd (Nat.lt_of_lt_of_le h5 h6) (Nat.lt_irrefl _)
      · exact g
theorem D6_s0 : D6 32 s0 := ⟨45, 45, rfl, rfl, by omega, by omega, fun _ _ _ => rfl⟩
theorem OUT_ex {F : Int32} {cv : Int} {N M : Nat} {X : Int} (h : SV N M X) (hM : M < 9007199254740992) (h1 : -1080 ≤ X) (h2 : X ≤ 971) (hcv : cv = 101 ∨ cv = 102 ∨ cv = 103) {y : Nat} (hy : y ≤ 1100) : ∃ D T, OUT F cv N y D T := by
  obtain ⟨s1, N', a, b, a1, a2, a3, a4⟩ := f234_eq (aa := 32) (.inl rfl) (M := M) (by omega) (X := X) (by omega) (by omega) (s := setI s0 24 15 F) ⟨45, 45, rfl, rfl, by omega, by omega, fun _ _ _ => rfl⟩
  obtain rfl := h.uniq a3
  have hV := VB_of h hM h1 h2
  have hm : MS s1 N a b F [] := by
    refine ⟨a2, ⟨?_, isL_nil⟩, ?_⟩
    · rw [a4.1 24 33 rfl (fun _ => rfl)]
      rfl
    · rw [a4.1 24 15 rfl (fun _ => rfl)]
      rfl
  rcases hcv with e | e | e
  · obtain ⟨_, D, T, _, c2, _⟩ := f186_eq hm hV (pr := y) (by omega) (Nat.zero_le _)
    exact ⟨D, T, fun _ => c2, fun e => by omega, fun e => by omega⟩
  · obtain ⟨_, D, T, _, c2, _⟩ := f185_eq hm (pr := y) (by omega) (Nat.zero_le _)
    exact ⟨D, T, fun e => by omega, fun _ => c2, fun e => by omega⟩
  · obtain ⟨_, D, T, _, c2, _⟩ := f187_eq hm hV (p := max y 1) (by omega) (by omega) (Nat.zero_le _)
    exact ⟨D, T, fun e => by omega, fun e => by omega, fun _ => c2⟩
/-! entries -/
def small (k : Int) : Int := if k = 8 then 1 else 0
theorem small01 (k : Int) : small k = 0 ∨ small k = 1 := by
  unfold small
  split <;> omega
/-- the letter of a real -/
def rCv (cv : Int) : Prop := cv = 97 ∨ cv = 101 ∨ cv = 102 ∨ cv = 103
theorem rC {s : zS} {F : Int32} {W pr cv su k c : Int} {a n : Nat} {t : List Int} (h : CH s F W pr cv su k c a n t) (hk : k = 7 ∨ k = 8) (hcv : rCv cv) : f64 s = zb0 (f103 (zl c) (zi (small k)) s) (fun s1 => some s1) := by
  unfold rCv at hcv
  unfold f64
  rw [h.entry.2.1, if_pos (zne (by omega)), h.entry.1, if_neg (zne (by omega)), if_neg (zne (by omega)), if_neg (zne (by omega)), if_neg (zne (by omega)), if_neg (zne (by omega)), if_neg (zne (by omega)), if_neg (zne (by omega)), h.entry.2.2]
  unfold f64_319 small
  rcases hk with rfl | rfl
  · rw [if_pos (show ¬ zi 7 = zi 8 from zne (by omega)), if_neg (show ¬ (7 : Int) = 8 by omega)]
  · rw [if_neg (not_not_intro rfl), if_pos (show (8 : Int) = 8 from rfl)]
theorem rM_entry {s : zS} {F : Int32} {W pr cv su k m : Int} {a : Nat} {t : List Int} (h : MH s F W pr cv su k m a t) (hk : k = 7 ∨ k = 8) (hcv : rCv cv) : f202 s = zb0 (f184 s) (fun s1 => some s1) := by
  unfold rCv at hcv
  rw [m202_entry h (by omega) (by unfold isCv; omega)]
  unfold f202_49
  rw [h.2.2.2.1, if_pos (zne (by omega)), if_neg (zne (by omega)), if_neg (zne (by omega)), if_pos (zne (by omega)), if_pos (zne (by omega)), if_pos (zne (by omega)), if_pos (zne (by omega)), if_pos (zne (by omega)), if_pos (zne (by omega))]
/-- the double that the reference has of the argument -/
theorem r_wide {k c m : Int} {t : List Int} (ha : arel k c m t) (hk : k = 7 ∨ k = 8) : ∃ U' : Nat, WID (fbU (small k)) (ebU (small k)) (loU (small k)) (bitsU c (small k)) U' ∧ ((k = 7 ∧ zl m = zl (U' : Int)) ∨ (k = 8 ∧ ∀ s, f170 (zi m) s = some (zl (U' : Int), s))) := by
  obtain ⟨_, _, q3, q4, _, q6, _, _, _, _, q11, _⟩ := ha
  rcases hk with rfl | rfl
  · obtain rfl : c = m := q6 (by omega)
    refine ⟨low c 64, ?_, .inl ⟨rfl, low64 c⟩⟩
    have h := low_lt c 64
    have e : (2 : Nat) ^ 64 = 18446744073709551616 := by decide
    rw [e] at h
    exact WID.same h
  · have hm := q11 rfl
    have h1 : -2147483648 ≤ m ∧ m < 2147483648 := by
      rw [hm, Int.bmod_def]
      split <;> omega
    have hU : ((low c 32 : Nat) : Int) = m % 4294967296 := by
      unfold low
      have e : (2 : Int) ^ 32 = 4294967296 := by decide
      rw [e, hm, Int.bmod_def]
      split <;> omega
    obtain ⟨U', a1, a2⟩ := f170_eq h1.1 h1.2 hU
    exact ⟨U', a2, .inr ⟨rfl, a1⟩⟩
theorem r184 {s : zS} {F : Int32} {W pr cv su k m : Int} {a : Nat} {t : List Int} (h : MH s F W pr cv su k m a t) {U' : Nat} (hU : (k = 7 ∧ zl m = zl (U' : Int)) ∨ (k = 8 ∧ ∀ s, f170 (zi m) s = some (zl (U' : Int), s))) : f184 s = f184_39 (zl U') s := by
  obtain ⟨h1, h2, h3, h4, h5, h6, h7, h8, h9, h10, h11⟩ := h
  have hm : mIx (zi a) 24 := zi_ix (by omega) (by omega) (by omega)
  have e29 : s.1 29 (zi (a : Int)).toNatClampNeg = zi k := by rw [zi_toNat (by omega)]; exact h8
  have e31 : s.2.1 31 (zi (a : Int)).toNatClampNeg = zl m := by rw [zi_toNat (by omega)]; exact h9
  unfold f184
  rw [h6, if_pos hm, e29, e31]
  rcases hU with ⟨rfl, e⟩ | ⟨rfl, e⟩
  · rw [if_pos (show ¬ zi 7 = zi 8 from zne (by omega)), if_pos hm, e]
  · rw [if_neg (not_not_intro rfl), if_pos hm, zL2I_zl, e]
    rfl
/-- the letter by letter of Infinity -/
theorem f184_99_loop {m : Int} : ∀ (d i n : Nat) (s : zS) (l : List Int), d + i = 8 → d < n → BD s l → l.length + d ≤ 100 →
    ∃ s', f184_99 n (zi m) (zi i) s = zb0 (f182 (zi m) (zi 0) (zi 0) s') (fun s1 => some s1) ∧ BD s' (l ++ (lit 64).drop i) ∧ fr [40] [33] s s' := by
  have hlen : (lit 64).length = 8 := by decide +kernel
  intro d
  induction d with
  | zero =>
    intro i n s l hd hn hB hl
    obtain ⟨n, rfl⟩ : ∃ k, n = k + 1 := ⟨n - 1, by omega⟩
    refine ⟨s, ?_, ?_, fr.refl⟩
    · show b184_99 (f184_99 n) _ _ _ = _
      unfold b184_99
      rw [if_pos (zge (by omega))]
    · rw [List.drop_eq_nil_of_le (by omega), List.append_nil]
      exact hB
  | succ d ih =>
    intro i n s l hd hn hB hl
    obtain ⟨n, rfl⟩ : ∃ k, n = k + 1 := ⟨n - 1, by omega⟩
    have hi : i < (lit 64).length := by omega
    have hv := lit_asc (c := 64) (by decide) _ (List.getElem_mem hi)
    obtain ⟨s1, a1, a2, a3⟩ := hB.add (by omega) (b := (lit 64)[i]) (by omega) (by omega)
    obtain ⟨s', b1, b2, b3⟩ := ih (i + 1) n s1 _ (by omega) (by omega) a2 (by rw [List.length_append]; show l.length + 1 + d ≤ 100; omega)
    refine ⟨s', ?_, ?_, a3.trans b3⟩
    · show b184_99 (f184_99 n) _ _ _ = _
      unfold b184_99
      have e2 : zlenN 64 = (lit 64).length := (lit_len 64).symm
      rw [if_neg (znge (by omega)), e2, if_pos (zi_ix (by omega) (by omega) (by omega)), zchr_eq hi (by omega), a1, zb0_mk, zi_add]
      exact b1
    · rw [List.drop_eq_getElem_cons hi]
      rw [List.append_assoc] at b2
      exact b2
theorem lit_nan : lit 17 = lit 63 := by decide +kernel
theorem lit_inf : lit 18 = lit 64 := by decide +kernel
theorem inf_head : ∀ v r, lit 64 = v :: r → ¬ dgt v := by
  intro v r e
  have h : (lit 64).head? = some 73 := by decide +kernel
  rw [e] at h
  cases h
  unfold dgt
  omega
/-- the class's piece, after the real is taken apart -/
theorem f103_eq {c : Int} {sm : Int} (hsm : sm = 0 ∨ sm = 1) {s : zS} {F : Int32} (hF : s.1 7 2 = F) (hP : PC s [] 0 (-1)) :
    (nanB (fbU sm) (ebU sm) (bitsU c sm) → ∃ s', f103 (zl c) (zi sm) s = some s' ∧ PC s' (lit 17) 0 (-1) ∧ fr wA [] s s') ∧
    (infB (fbU sm) (ebU sm) (bitsU c sm) → ∃ s', f103 (zl c) (zi sm) s = some s' ∧ PC s' (sgnL F (rS (fbU sm) (ebU sm) (bitsU c sm) : Nat) ++ (lit 18 ++ clsL F (rS (fbU sm) (ebU sm) (bitsU c sm) : Nat))) 0 (-1) ∧ fr wA [] s s') ∧
    (¬ nanB (fbU sm) (ebU sm) (bitsU c sm) → ¬ infB (fbU sm) (ebU sm) (bitsU c sm) → ∃ s2, RW s2 (fbU sm) (ebU sm) (loU sm) (bitsU c sm) ∧ PC s2 (sgnL F (rS (fbU sm) (ebU sm) (bitsU c sm) : Nat)) 0 (-1) ∧ fr [13, 14, 15] [] s s2 ∧ f103 (zl c) (zi sm) s = if ¬ (r54 s2) = (zi 97) then zb0 (f77 s2) (fun s3 => zb0 (f113 (s3.2.1 15 5) (s3.1 15 6) s3) (fun s4 => zb0 (f104 s4) (fun s5 => f103_90 s5))) else zb0 (f108 s2) (fun s6 => f103_90 s6)) := by
  obtain ⟨s1, a1, a2, a3⟩ := f100_eq (c := c) hsm s
  have hP1 := hP.mv a3 rfl rfl
  have hF1 : s1.1 7 2 = F := by rw [a3.f rfl (by decide)]; exact hF
  have n01 : ¬ zi 1 = zi 0 := zne (by omega)
  have hS : (rS (fbU sm) (ebU sm) (bitsU c sm) : Int) = 0 ∨ (rS (fbU sm) (ebU sm) (bitsU c sm) : Int) = 1 := by
    unfold rS
    omega
  have hno : infB (fbU sm) (ebU sm) (bitsU c sm) → ¬ nanB (fbU sm) (ebU sm) (bitsU c sm) := fun h g => g.2 h.2
  refine ⟨fun hn => ?_, fun hi => ?_, fun hn hi => ?_⟩
  · obtain ⟨s2, b1, b2, b3⟩ := hP1.all (c := 17) (by decide) (by decide +kernel)
    refine ⟨s2, ?_, b2, (a3.up rfl rfl).trans (b3.up rfl rfl)⟩
    unfold f103
    rw [a1, zb0_mk, a2.2.1.1 hn, if_neg n01, b1]
    rfl
  · obtain ⟨s2, b1, b2, b3⟩ := hP1.opn hF1 hS (by show 0 < 1600; omega)
    have hs := sgnL_len F (rS (fbU sm) (ebU sm) (bitsU c sm) : Nat)
    have h18 : (lit 18).length = 8 := by decide +kernel
    obtain ⟨s3, c1, c2, c3⟩ := b2.all (c := 18) (by decide) (by rw [List.nil_append]; omega)
    have hF3 : s3.1 7 2 = F := by rw [c3.f rfl (by decide), b3.f rfl (by decide)]; exact hF1
    obtain ⟨s4, d1, d2, d3⟩ := c2.close hF3 hS (by rw [List.nil_append, List.length_append]; omega)
    refine ⟨s4, ?_, ?_, (((a3.up rfl rfl).trans (b3.up rfl rfl)).trans (c3.up rfl rfl)).trans (d3.up rfl rfl)⟩
    · unfold f103
      have e4 : s2.1 15 4 = zi 1 := by rw [b3.f rfl (by decide)]; exact a2.2.2.1.1 hi
      have e2 : s3.1 15 2 = zi (rS (fbU sm) (ebU sm) (bitsU c sm) : Nat) := by rw [c3.f rfl (by decide), b3.f rfl (by decide)]; exact a2.1
      rw [a1, zb0_mk, a2.2.1.2 (hno hi), if_pos rfl, a2.1, b1, zb0_mk, e4, if_neg n01, c1, zb0_mk]
      unfold f103_90
      rw [e2, d1]
      rfl
    · rw [List.nil_append, List.append_assoc] at d2
      exact d2
  · obtain ⟨s2, b1, b2, b3⟩ := hP1.opn hF1 hS (by show 0 < 1600; omega)
    have e4 : s2.1 15 4 = zi 0 := by rw [b3.f rfl (by decide)]; exact a2.2.2.1.2 hi
    refine ⟨s2, ?_, by rw [List.nil_append] at b2; exact b2, (a3.up rfl rfl).trans (b3.up rfl rfl), ?_⟩
    · unfold RW
      rw [b3.f rfl (by decide), b3.l rfl]
      exact a2
    · unfold f103
      rw [a1, zb0_mk, a2.2.1.2 hn, if_pos rfl, a2.1, b1, zb0_mk, e4, if_pos rfl]
