/-! o and x: both sides -/
def nb (k : Int) : Nat := if k = 3 then 8 else if k = 4 then 16 else if k = 5 then 32 else 64
theorem nb_or {k : Int} : nb k = 8 ∨ nb k = 16 ∨ nb k = 32 ∨ nb k = 64 := by
  unfold nb
  repeat' split
  all_goals omega
theorem nb_zshl {k : Int} (h : 3 ≤ k ∧ k ≤ 6) : zshl (zi 8) (zi (k - 3)) = zi (nb k) := by
  have q : k = 3 ∨ k = 4 ∨ k = 5 ∨ k = 6 := by omega
  rcases q with rfl | rfl | rfl | rfl <;> decide
theorem r28_eq {k : Int} (h : 3 ≤ k ∧ k ≤ 6) (s : zS) : r28 (zi k) s = zi (nb k) := by
  unfold r28 r264 r265
  rw [if_neg (znlt (by omega)), if_neg (zngt (by omega)), zi_sub, nb_zshl h]
theorem lit22 : lit 22 = [48] := by decide +kernel
theorem lit23 : lit 23 = [48, 120] := by decide +kernel
theorem KH_ex {b V : Nat} (hb : 0 < b) : ∀ m, 1 ≤ m → V < 2 ^ (b * m) → ∃ K, KH b V K := by
  intro m
  induction m with
  | zero => intro h; omega
  | succ m ih =>
    intro _ h
    by_cases q : m = 0
    · subst q
      exact ⟨1, h, Nat.le_refl _, .inl rfl⟩
    · by_cases q2 : V < 2 ^ (b * m)
      · exact ih (by omega) q2
      · exact ⟨m + 1, h, by omega, .inr (by rw [Nat.add_sub_cancel]; omega)⟩
theorem KH_low {b : Nat} (hb : b = 3 ∨ b = 4) (v : Int) (k : Int) : ∃ K, KH b (low v (nb k)) K ∧ K ≤ 22 := by
  have h1 := low_lt v (nb k)
  have h2 : 2 ^ nb k ≤ 2 ^ (b * 22) := p2_mono (by have := nb_or (k := k); rcases hb with rfl | rfl <;> omega)
  obtain ⟨K, hK⟩ := KH_ex (b := b) (V := low v (nb k)) (by omega) 22 (by omega) (by omega)
  refine ⟨K, hK, ?_⟩
  rcases hK.2.2 with e | e
  · omega
  · apply Classical.byContradiction
    intro q
    have h3 : b * 22 ≤ b * (K - 1) := Nat.mul_le_mul_left _ (by omega)
    have := p2_mono h3
    omega
theorem hd_asc {b : Nat} (hb : b = 3 ∨ b = 4) (V : Nat) : ∀ k, asc (hd b V k)
  | 0 => fun v hv => by cases hv
  | k + 1 => by
    intro v hv
    have hb16 := p2_16 hb
    rcases List.mem_cons.mp hv with rfl | hv
    · have := dch_asc (c := V / 2 ^ (b * k) % 2 ^ b) (Nat.lt_of_lt_of_le (Nat.mod_lt _ hb16.2) hb16.1)
      omega
    · exact hd_asc hb V k v hv
theorem hd3_dgt (V : Nat) : ∀ k v, v ∈ hd 3 V k → dgt v
  | 0, v, hv => by cases hv
  | k + 1, v, hv => by
    rcases List.mem_cons.mp hv with rfl | hv
    · have : V / 2 ^ (3 * k) % 2 ^ 3 < 8 := Nat.mod_lt _ (by decide)
      unfold dch dgt
      rw [if_pos (by omega)]
      omega
    · exact hd3_dgt V k v hv
theorem split_dgt : ∀ (L : List Int), ∃ D T, L = D ++ T ∧ (∀ v, v ∈ D → dgt v) ∧ (∀ v r, T = v :: r → ¬ dgt v)
  | [] => ⟨[], [], rfl, (fun v hv => by cases hv), fun v r h => by cases h⟩
  | x :: r => by
    by_cases q : dgt x
    · obtain ⟨D, T, h1, h2, h3⟩ := split_dgt r
      refine ⟨x :: D, T, by rw [h1]; rfl, fun v hv => ?_, h3⟩
      rcases List.mem_cons.mp hv with rfl | hv
      · exact q
      · exact h2 v hv
    · refine ⟨[], x :: r, rfl, (fun v hv => by cases hv), fun v r' h => ?_⟩
      injection h with h _
      rw [← h]
      exact q
/-- flags that o and x don't take -/
theorem flt_ox {F : Int32} {W pr cv : Int} (h : flt F 0 W pr cv = 0) (hc : cv = 111 ∨ cv = 120) : ¬ hasF F 4 ∧ ¬ hasF F 8 ∧ ¬ hasF F 32 ∧ ¬ hasF F 64 := by
  unfold flt at h
  rw [if_neg (show ¬ (0 : Int) = 1 by decide)] at h
  have e : r200 (zi cv) s0 = zi 19 := by rcases hc with rfl | rfl <;> decide
  by_cases q : (F &&& (zi 19 ^^^ zi (-1))) = zi 0
  · exact ⟨and_sub q (by decide), and_sub q (by decide), and_sub q (by decide), and_sub q (by decide)⟩
  · rw [e, if_pos q] at h
    cases h
def shp (F : Int32) : Int := if hasF F 2 then 1 else 0
/-- the class's -/
theorem f67_eq {s : zS} {F : Int32} {k c : Int} {b K c1 : Nat} {pre : List Int} (hP : PC s [] 0 (-1)) (hF : s.1 7 2 = F) (hv : s.2.1 12 9 = zl c) (h8 : s.1 12 8 = zi k) (hk : 3 ≤ k ∧ k ≤ 6) (hb : b = 3 ∨ b = 4) (hc1 : c1 < 78) (hpre : pre = if hasF F 2 then lit c1 else []) (hpl : pre.length ≤ 2) (hK : KH b (low c (nb k)) K) :
    ∃ s', f67 c1 (zi b) s = some s' ∧ PC s' (pre ++ hd b (low c (nb k)) K) 0 (zat F pre.length) ∧ fr [13, 14] [] s s' := by
  have n01 : ¬ zi 1 = zi 0 := zne (by omega)
  have e1 : ∃ s1, f67 c1 (zi b) s = f67_19 (zi b) s1 ∧ PC s1 pre 0 (-1) ∧ fr [13, 14] [] s s1 := by
    unfold f67
    by_cases q : hasF F 2
    · rw [if_pos q] at hpre
      obtain ⟨s1, a1, a2, a3⟩ := hP.all hc1 (by rw [← hpre]; show 0 + pre.length ≤ 1600; omega)
      rw [r51_1 hF q, if_neg n01, a1, zb0_mk]
      refine ⟨s1, rfl, ?_, a3⟩
      rw [hpre]
      exact a2
    · rw [if_neg q] at hpre
      rw [r51_0 hF q, if_pos rfl]
      exact ⟨s, rfl, by rw [hpre]; exact hP, fr.refl⟩
  obtain ⟨s1, a1, a2, a3⟩ := e1
  have hF1 : s1.1 7 2 = F := (congrFun (a3.f rfl (by decide)) 2).trans hF
  obtain ⟨s2, b1, b2, b3⟩ := a2.mark hF1
  have f2 : fr [13, 14] [] s s2 := a3.trans (b3.up rfl rfl)
  have hv2 : s2.2.1 12 9 = zl c := (f2.2.1 12 9 rfl).trans hv
  have h82 : s2.1 12 8 = zi k := (congrFun (f2.f (a := 12) rfl (by decide)) 8).trans h8
  obtain ⟨s3, c1', c2, c3⟩ := b2.bits (v := c) (n := nb k) nb_or hb hK (by omega)
  refine ⟨s3, ?_, c2, f2.trans c3⟩
  rw [a1]
  unfold f67_19
  rw [b1, zb0_mk, hv2, h82, r28_eq hk, c1']
  rfl
/-- the reference's, up to laid -/
theorem m183_bits {s : zS} {F : Int32} {k c : Int} {a b K : Nat} {base : Int} (hA : MA s a k (zl c)) (hk : 3 ≤ k ∧ k ≤ 6) (hb : b = 3 ∧ base = 8 ∨ b = 4 ∧ base = 16) (h15 : s.1 24 15 = F) (hK : KH b (low c (nb k)) K) (hKle : K ≤ 22) :
    ∃ s1, f183 (zi base) s = f183_318 (zi 0) (zi (if base = 16 then shp F else 0)) s1 ∧ BD s1 ((if base = 8 ∧ hasF F 2 then [48] else []) ++ hd b (low c (nb k)) K) ∧ fr [40] [33] s s1 := by
  have n01 : ¬ zi 1 = zi 0 := zne (by omega)
  have hb' : b = 3 ∨ b = 4 := by omega
  have hba : base = 8 ∨ base = 16 := by omega
  have hV : low c (nb k) < 18446744073709551616 := by
    have h1 := low_lt c (nb k)
    have h2 : 2 ^ nb k ≤ 2 ^ 64 := p2_mono (by have := nb_or (k := k); omega)
    have e : (2 : Nat) ^ 64 = 18446744073709551616 := by decide
    omega
  have hm : mIx (zi a) 24 := zi_ix (by omega) (by have := hA.1; omega) (by have := hA.1; omega)
  -- the value, narrowed
  have e163 : ∀ x2 : Int32, f183_163 (zi base) x2 (zl c) (zi (nb k)) (zi b) (setI s 24 33 (zi 0)) = f183_181 (zi base) (zl (low c (nb k))) (zi b) (setI s 24 33 (zi 0)) := by
    intro x2
    unfold f183_163
    by_cases q : nb k = 64
    · rw [q, if_pos (zge (by decide)), low64 c]
    · have := nb_or (k := k)
      rw [if_neg (znge (by omega)), low_eq c (by omega)]
  have e0 : f183 (zi base) s = f183_181 (zi base) (zl (low c (nb k))) (zi b) (setI s 24 33 (zi 0)) := by
    unfold f183
    rw [hA.2.1, if_pos hm, if_pos hm, if_pos (zne (by omega)), zi_toNat (by have := hA.1; omega), hA.2.2.1, hA.2.2.2, zi_sub, nb_zshl hk]
    rcases hb with ⟨rfl, rfl⟩ | ⟨rfl, rfl⟩
    · rw [if_neg (not_not_intro rfl)]
      exact e163 _
    · rw [if_pos (zne (by omega))]
      exact e163 _
  -- the first 0 of #o
  have e181 : ∃ s1, f183_181 (zi base) (zl (low c (nb k))) (zi b) (setI s 24 33 (zi 0)) = f183_208 zF (zi base) (zl (low c (nb k))) (zi b) (zi 63) s1 ∧ BD s1 (if base = 8 ∧ hasF F 2 then [48] else []) ∧ fr [40] [33] s s1 := by
    have hB0 : BD (setI s 24 33 (zi 0)) [] := ⟨rfl, isL_nil⟩
    have hf0 : fr [40] [33] s (setI s 24 33 (zi 0)) := fr.refl.sI (.inr ⟨rfl, rfl⟩)
    have h15' : (setI s 24 33 (zi 0)).1 24 15 = F := h15
    unfold f183_181
    by_cases q8 : base = 8
    · rw [if_neg (not_not_intro (zeq q8)), h15']
      by_cases q : hasF F 2
      · obtain ⟨s1, a1, a2, a3⟩ := hB0.add (by show 0 < 6000; omega) (b := 48) (by omega) (by omega)
        rw [r180_1 q, if_neg n01, a1, zb0_mk, if_pos ⟨q8, q⟩]
        exact ⟨s1, rfl, a2, hf0.trans a3⟩
      · rw [r180_0 q, if_pos rfl, if_neg (fun h => q h.2)]
        exact ⟨_, rfl, hB0, hf0⟩
    · rw [if_pos (zne (by omega)), if_neg (fun h => q8 h.1)]
      exact ⟨_, rfl, hB0, hf0⟩
  obtain ⟨s1, a1, a2, a3⟩ := e181
  have h64 : low c (nb k) < 2 ^ (63 + 1) := by
    have e : (2 : Nat) ^ (63 + 1) = 18446744073709551616 := by decide
    omega
  obtain ⟨K', x7, k1, k2, k3⟩ := f183_208_loop hb' hV (x1 := zi base) (s := s1) 63 zF (by omega) (by unfold zF; omega) h64
  have hKK : K' = K := KH_uniq (by omega) k1 hK
  subst hKK
  have hpl : (if base = 8 ∧ hasF F 2 then ([48] : List Int) else []).length ≤ 1 := by split <;> decide
  obtain ⟨s2, c1, c2, c3⟩ := f183_238_loop hb' hV (x1 := zi base) (x7 := x7) K' zF s1 _ k2 (by unfold zF; omega) a2 (by omega)
  refine ⟨s2, ?_, c2, a3.trans c3⟩
  rw [e0, a1, show zi 63 = zi ((63 : Nat) : Int) from rfl, k3, c1]
  have h15s : s2.1 24 15 = F := (c3.1 24 15 rfl (fun _ => rfl)).trans ((a3.1 24 15 rfl (fun _ => rfl)).trans h15)
  rw [h15s]
  unfold shp
  rcases hba with e | e
  · rw [if_pos (zne (by omega)), if_neg (by omega)]
  · rw [if_neg (not_not_intro (zeq e)), if_pos e]
    by_cases q : hasF F 2
    · rw [r180_1 q, if_neg n01, if_pos q]
    · rw [r180_0 q, if_pos rfl, if_neg q]
theorem nosgn {F : Int32} (h4 : ¬ hasF F 4) (h8 : ¬ hasF F 8) : sgnL F 0 = [] ∧ clsL F 0 = [] := by
  unfold sgnL clsL
  rw [if_neg (show ¬ (0 : Int) = 1 by decide), if_neg h4, if_neg h8, if_neg (fun h => absurd h.1 (by decide))]
  exact ⟨rfl, rfl⟩
theorem CV_x {F : Int32} {W pr su k c m : Int} {a n : Nat} {t : List Int} (hv : vald F W pr 120 k c m t) (hk : 3 ≤ k ∧ k ≤ 6) : CV F W pr 120 su k c m a n t := by
  obtain ⟨ha, _, _, hf, hW1, hW2, _, _, _⟩ := hv
  obtain ⟨q1, q2, q3, q4, q5, q6, _⟩ := ha
  have hcm : c = m := q6 (by omega)
  subst hcm
  obtain ⟨f4, f8, f32, f64'⟩ := flt_ox hf (.inr rfl)
  obtain ⟨g1, g2⟩ := nosgn f4 f8
  obtain ⟨K, hK, hKle⟩ := KH_low (b := 4) (.inr rfl) c k
  obtain ⟨D, T, e, hD, hT⟩ := split_dgt (hd 4 (low c (nb k)) K)
  have hasc := hd_asc (b := 4) (.inr rfl) (low c (nb k)) K
  have hDT : (D ++ T).length = K := by rw [← e, hd_len]
  have hpre : hxL (shp F) = if hasF F 2 then lit 23 else [] := by
    unfold hxL shp
    rw [lit23]
    by_cases q : hasF F 2
    · rw [if_pos q, if_pos q, if_pos rfl]
    · rw [if_neg q, if_neg q, if_neg (by decide)]
  have hpl : (hxL (shp F)).length ≤ 2 := by
    unfold hxL
    split <;> decide
  have eA : laidA F 0 (shp F) = hxL (shp F) := by
    unfold laidA
    rw [g1, List.nil_append]
  have eB : laidB F 0 1 D T = hd 4 (low c (nb k)) K := by
    unfold laidB bodL
    rw [if_neg (fun h => f32 h.1), g2, List.append_nil, ← e]
  have hpa : asc (hxL (shp F)) := by
    rw [hpre]
    split
    · exact lit_asc (by decide)
    · exact fun v hv => by cases hv
  have hR := laid_PR (F := F) (W := W) (m := 0) (h := shp F) (D := D) (T := T) (by rw [eA]; exact hpa) (by rw [eB]; exact hasc) (by rw [eA, eB, List.length_append, hd_len]; omega) (flt_16_1 hf)
  refine ⟨_, _, _, _, _, hR, fun s h hP => ?_, fun s h hM => ?_⟩
  · obtain ⟨s1, a1, a2, a3⟩ := f67_eq hP h.1 h.entry.2.2 h.entry.2.1 hk (b := 4) (.inr rfl) (c1 := 23) (by decide) hpre hpl hK
    refine ⟨s1, ?_, by rw [eA, eB]; exact a2, a3.up rfl rfl⟩
    unfold f64
    rw [h.entry.2.1, if_pos (zne (by omega)), h.entry.1, if_neg (zne (by omega)), if_neg (zne (by omega)), if_neg (zne (by omega)), if_neg (zne (by omega)), if_neg (zne (by omega)), if_neg (zne (by omega)), if_pos rfl]
    show zb0 (f67 23 (zi ((4 : Nat) : Int)) s) _ = _
    rw [a1]
    rfl
  · obtain ⟨s1, a1, a2, a3⟩ := m183_bits (s := s) (F := F) (k := k) (c := c) (a := a) (b := 4) (base := 16) ⟨h.2.2.2.2.2.2.1, h.2.2.2.2.2.1, h.2.2.2.2.2.2.2.1, h.2.2.2.2.2.2.2.2.1⟩ hk (.inr ⟨rfl, rfl⟩) h.1 hK hKle
    rw [if_neg (show ¬ ((16 : Int) = 8 ∧ hasF F 2) from fun h => absurd h.1 (by decide)), List.nil_append, e] at a2
    rw [if_pos rfl] at a1
    obtain ⟨s2, b1, b2, b3⟩ := laid_eq (s := s1) (F := F) (W := W) (m := 0) (h := shp F) (zr := 1) (D := D) (T := T) (hM.mv a3 rfl rfl rfl rfl) a2 ((a3.1 24 15 rfl (fun _ => rfl)).trans h.1) ((a3.1 24 16 rfl (fun _ => rfl)).trans h.2.1) (by omega) hW2 (.inl rfl) b01 (.inr rfl) hD (fun v hv => (hasc.byt) v (by rw [e]; exact List.mem_append_right _ hv)) hT (by rw [List.length_append] at hDT; omega) (by show 0 ≤ 1000; omega)
    refine ⟨s2, ?_, ?_, (R6.fr a3 h.2.2.2.2.2.2.2.2.2.2 rfl rfl rfl rfl rfl rfl).fr b3 rfl rfl rfl rfl rfl rfl, (a3.up rfl rfl).trans (b3.up rfl rfl)⟩
    · rw [m202_entry h (by omega) (.inr (.inr (.inr (.inr (.inr (.inl rfl))))))]
      unfold f202_49
      rw [h.2.2.2.1, if_pos (zne (by omega)), if_neg (zne (by omega)), if_neg (zne (by omega)), if_pos (zne (by omega)), if_pos (zne (by omega)), if_pos (zne (by omega)), if_pos (zne (by omega)), if_neg (not_not_intro rfl), a1]
      unfold f183_318
      rw [b1]
      rfl
    · rw [List.nil_append] at b2
      have e0 : ∀ x : Nat, (0 : Int) + x = x := fun x => by omega
      rw [e0] at b2
      exact b2
theorem rep_comm (n : Nat) (X : List Int) : ([48] : List Int) ++ (List.replicate n 48 ++ X) = List.replicate n 48 ++ ([48] ++ X) := by
  have : ([48] : List Int) ++ List.replicate n 48 = List.replicate n 48 ++ [48] := by
    show 48 :: List.replicate n 48 = _
    rw [← List.replicate_succ, List.replicate_succ']
  rw [← List.append_assoc, this, List.append_assoc]
theorem CV_o {F : Int32} {W pr su k c m : Int} {a n : Nat} {t : List Int} (hv : vald F W pr 111 k c m t) (hk : 3 ≤ k ∧ k ≤ 6) : CV F W pr 111 su k c m a n t := by
  obtain ⟨ha, _, _, hf, hW1, hW2, _, _, _⟩ := hv
  obtain ⟨q1, q2, q3, q4, q5, q6, _⟩ := ha
  have hcm : c = m := q6 (by omega)
  subst hcm
  obtain ⟨f4, f8, f32, f64'⟩ := flt_ox hf (.inl rfl)
  obtain ⟨g1, g2⟩ := nosgn f4 f8
  obtain ⟨K, hK, hKle⟩ := KH_low (b := 3) (.inl rfl) c k
  have hasc := hd_asc (b := 3) (.inl rfl) (low c (nb k)) K
  -- the prefix, and the body of the reference
  obtain ⟨pre, hpre⟩ : ∃ pre : List Int, pre = if hasF F 2 then [48] else [] := ⟨_, rfl⟩
  have hpre22 : pre = if hasF F 2 then lit 22 else [] := by rw [lit22]; exact hpre
  have hpl : pre.length ≤ 2 := by rw [hpre]; split <;> decide
  have hpa : asc pre := by
    rw [hpre22]
    split
    · exact lit_asc (by decide)
    · exact fun v hv => by cases hv
  have hpd : ∀ v, v ∈ pre → dgt v := by
    rw [hpre]
    split
    · intro v hv
      rcases List.mem_cons.mp hv with rfl | hv
      · unfold dgt
        omega
      · cases hv
    · exact fun v hv => by cases hv
  have hlen : (pre ++ hd 3 (low c (nb k)) K).length = pre.length + K := by rw [List.length_append, hd_len]
  have eA : laidA F 0 0 = [] := by
    unfold laidA hxL
    rw [g1, if_neg (show ¬ (0 : Int) = 1 by decide)]
    rfl
  have eB : laidB F 0 1 (pre ++ hd 3 (low c (nb k)) K) [] = pre ++ hd 3 (low c (nb k)) K := by
    unfold laidB bodL
    rw [if_neg (fun h => f32 h.1), g2, List.append_nil, List.append_nil]
  have hR : PR (pre ++ hd 3 (low c (nb k)) K) 0 (zat F pre.length) (laidL F W 0 0 1 (pre ++ hd 3 (low c (nb k)) K) []) (laidL F W 0 0 1 (pre ++ hd 3 (low c (nb k)) K) []).length W F := by
    refine ⟨(hpa.append hasc).byt, by omega, Int.le_refl _, by omega, ?_⟩
    unfold laidL laidZ zat
    rw [eA, eB, List.nil_append, List.nil_append]
    by_cases q : hasF F 16
    · right
      rw [if_pos q, if_pos ⟨q, rfl⟩]
      refine ⟨by omega, by omega, rfl, flt_16_1 hf q, ?_, rfl⟩
      unfold fillL
      rw [Int.toNat_natCast, List.take_left, List.drop_left, hpre]
      split
      · exact (rep_comm _ _).symm
      · rfl
    · left
      rw [if_neg q, if_neg (fun h => q h.1), List.nil_append]
      exact ⟨rfl, rfl, by omega⟩
  refine ⟨_, _, _, _, _, hR, fun s h hP => ?_, fun s h hM => ?_⟩
  · obtain ⟨s1, a1, a2, a3⟩ := f67_eq hP h.1 h.entry.2.2 h.entry.2.1 hk (b := 3) (.inl rfl) (c1 := 22) (by decide) hpre22 hpl hK
    refine ⟨s1, ?_, a2, a3.up rfl rfl⟩
    unfold f64
    rw [h.entry.2.1, if_pos (zne (by omega)), h.entry.1, if_neg (zne (by omega)), if_neg (zne (by omega)), if_neg (zne (by omega)), if_pos rfl]
    show zb0 (f67 22 (zi ((3 : Nat) : Int)) s) _ = _
    rw [a1]
    rfl
  · obtain ⟨s1, a1, a2, a3⟩ := m183_bits (s := s) (F := F) (k := k) (c := c) (a := a) (b := 3) (base := 8) ⟨h.2.2.2.2.2.2.1, h.2.2.2.2.2.1, h.2.2.2.2.2.2.2.1, h.2.2.2.2.2.2.2.2.1⟩ hk (.inl ⟨rfl, rfl⟩) h.1 hK hKle
    have epre : (if (8 : Int) = 8 ∧ hasF F 2 then ([48] : List Int) else []) = pre := by
      rw [hpre]
      by_cases q : hasF F 2
      · rw [if_pos ⟨rfl, q⟩, if_pos q]
      · rw [if_neg (fun h => q h.2), if_neg q]
    rw [epre] at a2
    rw [if_neg (show ¬ (8 : Int) = 16 by decide)] at a1
    obtain ⟨s2, b1, b2, b3⟩ := laid_eq (s := s1) (F := F) (W := W) (m := 0) (h := 0) (zr := 1) (D := pre ++ hd 3 (low c (nb k)) K) (T := []) (hM.mv a3 rfl rfl rfl rfl) (by rw [List.append_nil]; exact a2) ((a3.1 24 15 rfl (fun _ => rfl)).trans h.1) ((a3.1 24 16 rfl (fun _ => rfl)).trans h.2.1) (by omega) hW2 (.inl rfl) (.inl rfl) (.inr rfl) (fun v hv => by
      rcases List.mem_append.mp hv with q | q
      · exact hpd v q
      · exact hd3_dgt _ _ v q) (fun v hv => by cases hv) (fun v r h => by cases h) (by rw [hlen]; show _ + 0 ≤ 2000; omega) (by show 0 ≤ 1000; omega)
    refine ⟨s2, ?_, ?_, (R6.fr a3 h.2.2.2.2.2.2.2.2.2.2 rfl rfl rfl rfl rfl rfl).fr b3 rfl rfl rfl rfl rfl rfl, (a3.up rfl rfl).trans (b3.up rfl rfl)⟩
    · rw [m202_entry h (by omega) (.inr (.inr (.inr (.inr (.inl rfl)))))]
      unfold f202_49
      rw [h.2.2.2.1, if_pos (zne (by omega)), if_neg (zne (by omega)), if_neg (zne (by omega)), if_pos (zne (by omega)), if_pos (zne (by omega)), if_pos (zne (by omega)), if_neg (not_not_intro rfl), a1]
      unfold f183_318
      rw [b1]
      rfl
    · rw [List.nil_append] at b2
      have e0 : ∀ x : Nat, (0 : Int) + x = x := fun x => by omega
      rw [e0] at b2
      exact b2
