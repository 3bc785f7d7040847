/-! conversions: words, wholes, texts -/
def CV (F : Int32) (W pr cv su k c m : Int) (a n : Nat) (t : List Int) : Prop := ∃ l g z mm w, PR l g z mm w W F ∧ (∀ s, CH s F W pr cv su k c a n t → PC s [] 0 (-1) → ∃ s', f64 s = some s' ∧ PC s' l g z ∧ fr wA [] s s') ∧ (∀ s, MH s F W pr cv su k m a t → MD s [] 0 → ∃ s', f202 s = some s' ∧ MD s' mm w ∧ R6 s' ∧ fr yA yB s s')
theorem m202_entry {s : zS} {F : Int32} {W pr cv su k m : Int} {a : Nat} {t : List Int} (h : MH s F W pr cv su k m a t) (hk : 0 ≤ k ∧ k ≤ 9) (hcv : isCv cv) : f202 s = f202_49 (zi k) (zl m) s := by
  obtain ⟨h1, h2, h3, h4, h5, h6, h7, h8, h9, h10, h11⟩ := h
  have hc := cv_range hcv
  have hm : mIx (zi a) 24 := zi_ix (by omega) (by omega) (by omega)
  unfold f202 f202_31
  have h110 : ¬ cv = 110 := by
    intro e
    unfold isCv at hcv
    omega
  have e29 : s.1 29 (zi (a : Int)).toNatClampNeg = zi k := by rw [zi_toNat (by omega)]; exact h8
  have e31 : s.2.1 31 (zi (a : Int)).toNatClampNeg = zl m := by rw [zi_toNat (by omega)]; exact h9
  rw [h4, if_neg (zne (by omega)), if_pos (zne (by omega)), h6, if_pos hm, e29, if_pos (zge (by omega)), if_pos hm, e31]
theorem CV_cut {F : Int32} {W pr cv su k c m : Int} {a n : Nat} {t : List Int} {wc wm : zS → Option zS} {L : List Int} (haL : asc L) (hL : L.length ≤ 1500) (hp1 : -1 ≤ pr) (hp2 : pr ≤ 1100)
    (hc1 : ∀ s, CH s F W pr cv su k c a n t → f64 s = zb0 (wc s) (fun s1 => zb0 (f83 (r53 s1) s1) (fun s2 => some s2)))
    (hc2 : ∀ s, CH s F W pr cv su k c a n t → PC s [] 0 (-1) → ∃ s1, wc s = some s1 ∧ PC s1 L 0 (-1) ∧ fr wA [] s s1)
    (hm1 : ∀ s, MH s F W pr cv su k m a t → f202 s = zb0 (wm s) (fun s1 => f202_150 s1))
    (hm2 : ∀ s, MH s F W pr cv su k m a t → MD s [] 0 → ∃ s1, wm s = some s1 ∧ MD s1 L L.length ∧ R6 s1 ∧ fr yA yB s s1) : CV F W pr cv su k c m a n t := by
  have hcl := cutL_len pr L
  refine ⟨cutL pr L, 0, -1, cutL pr L, (cutL pr L).length, PR.plain (cutL_asc haL) (by omega) W F, fun s h hP => ?_, fun s h hM => ?_⟩
  · obtain ⟨s1, a1, a2, a3⟩ := hc2 s h hP
    have h5 : r53 s1 = zi pr := (congrFun (a3.f (a := 7) rfl (by decide)) 5).trans h.2.2.1
    obtain ⟨s2, b1, b2, b3⟩ := a2.cut haL (by omega) hp1 hp2
    refine ⟨s2, ?_, b2, a3.trans (b3.up rfl rfl)⟩
    rw [hc1 s h, a1, zb0_mk, h5, b1]
    rfl
  · obtain ⟨s1, a1, a2, a4, a3⟩ := hm2 s h hM
    have h17 : s1.1 24 17 = zi pr := (a3.1 24 17 rfl (fun _ => rfl)).trans h.2.2.1
    obtain ⟨s2, b1, b2, b3⟩ := a2.cut haL (by omega) h17 hp1 hp2
    refine ⟨s2, ?_, b2, a4.fr b3 rfl rfl rfl rfl rfl rfl, a3.trans (b3.up rfl rfl)⟩
    rw [hm1 s h, a1, zb0_mk, b1]
/-- a literal word -/
theorem CV_word {F : Int32} {W pr cv su k c m : Int} {a n : Nat} {t : List Int} {c1 c2 : Nat} (h1 : c1 < 78) (h2 : c2 < 78) (e : lit c1 = lit c2) (hp1 : -1 ≤ pr) (hp2 : pr ≤ 1100)
    (hc1 : ∀ s, CH s F W pr cv su k c a n t → f64 s = zb0 (f71 c1 s) (fun s1 => zb0 (f83 (r53 s1) s1) (fun s2 => some s2)))
    (hm1 : ∀ s, MH s F W pr cv su k m a t → f202 s = zb0 (f176 c2 s) (fun s1 => f202_150 s1)) : CV F W pr cv su k c m a n t := by
  have hs := lit_small h1
  refine CV_cut (wc := f71 c1) (wm := f176 c2) (L := lit c1) (lit_asc h1) (by omega) hp1 hp2 hc1 (fun s h hP => ?_) hm1 (fun s h hM => ?_)
  · obtain ⟨s1, a1, a2, a3⟩ := hP.all h1 (by show 0 + _ ≤ 1600; omega)
    exact ⟨s1, a1, a2, a3.up rfl rfl⟩
  · obtain ⟨s1, a1, a2, a3⟩ := hM.say h2 (by show 0 ≤ 11000; omega)
    refine ⟨s1, a1, ?_, R6.fr a3 h.2.2.2.2.2.2.2.2.2.2 rfl rfl rfl rfl rfl rfl, a3.up rfl rfl⟩
    rw [e]
    rw [List.nil_append] at a2
    have e0 : (0 : Int) + ((lit c2).length : Nat) = ((lit c2).length : Nat) := by omega
    rw [e0] at a2
    exact a2
theorem CH.entry {s : zS} {F : Int32} {W pr cv su k c : Int} {a n : Nat} {t : List Int} (h : CH s F W pr cv su k c a n t) : r54 s = zi cv ∧ s.1 12 8 = zi k ∧ s.2.1 12 9 = zl c := ⟨h.2.2.2.1, h.2.2.2.2.2.2.1, h.2.2.2.2.2.2.2.1⟩
theorem CV_nothing {F : Int32} {W pr cv su c m : Int} {a n : Nat} {t : List Int} (hcv : isCv cv) (hp1 : -1 ≤ pr) (hp2 : pr ≤ 1100) : CV F W pr cv su 0 c m a n t := by
  obtain ⟨w1, w2, w3⟩ := lits_words
  have hc := cv_range hcv
  by_cases q : cv = 98
  · refine CV_word (c1 := 14) (c2 := 60) (by omega) (by omega) w1 hp1 hp2 (fun s h => ?_) (fun s h => ?_)
    · unfold f64 f64_30
      rw [h.entry.2.1, if_neg (not_not_intro rfl), h.entry.1, if_neg (not_not_intro (zeq q))]
    · rw [m202_entry h (by omega) hcv]
      unfold f202_49 f202_90 f202_124
      rw [h.2.2.2.1, if_pos (zne (by omega)), if_pos (zeq q), if_neg (not_not_intro (zeq q)), if_pos rfl]
  · refine CV_word (c1 := 15) (c2 := 62) (by omega) (by omega) w3 hp1 hp2 (fun s h => ?_) (fun s h => ?_)
    · unfold f64 f64_30
      rw [h.entry.2.1, if_neg (not_not_intro rfl), h.entry.1, if_pos (zne (by omega))]
    · rw [m202_entry h (by omega) hcv]
      unfold f202_49 f202_90
      rw [h.2.2.2.1, if_pos (zne (by omega)), if_neg (zne (by omega)), if_pos rfl, if_pos (zne (by omega)), if_neg (not_not_intro rfl)]
theorem CV_b {F : Int32} {W pr su k c m : Int} {a n : Nat} {t : List Int} (ha : arel k c m t) (hk : ¬ k = 0) (hp1 : -1 ≤ pr) (hp2 : pr ≤ 1100) : CV F W pr 98 su k c m a n t := by
  obtain ⟨w1, w2, w3⟩ := lits_words
  have hcv : isCv 98 := .inl rfl
  obtain ⟨q1, q2, q3, q4, q5, _⟩ := ha
  unfold inL at q3 q4
  by_cases q : k = 1 ∧ c = 0
  · obtain ⟨rfl, rfl⟩ := q
    have hm : m = 0 := (q5 rfl).mp rfl
    subst hm
    refine CV_word (c1 := 14) (c2 := 60) (by omega) (by omega) w1 hp1 hp2 (fun s h => ?_) (fun s h => ?_)
    · unfold f64 f64_188
      rw [h.entry.2.1, if_pos (zne (by omega)), h.entry.1, if_pos rfl, if_neg (not_not_intro rfl), h.entry.2.2, if_neg (not_not_intro rfl)]
    · rw [m202_entry h (by omega) hcv]
      unfold f202_49 f202_90 f202_124
      rw [h.2.2.2.1, if_pos (zne (by omega)), if_pos rfl, if_neg (not_not_intro rfl), if_neg (zne (by omega)), if_neg (not_not_intro rfl), if_neg (not_not_intro rfl)]
  · refine CV_word (c1 := 16) (c2 := 61) (by omega) (by omega) w2 hp1 hp2 (fun s h => ?_) (fun s h => ?_)
    · unfold f64 f64_188
      rw [h.entry.2.1, if_pos (zne (by omega)), h.entry.1, if_pos rfl]
      by_cases k1 : k = 1
      · rw [if_neg (not_not_intro (zeq k1)), h.entry.2.2, if_pos (zlne (by omega))]
      · rw [if_pos (zne (by omega))]
    · rw [m202_entry h (by omega) hcv]
      unfold f202_49 f202_90 f202_124
      rw [h.2.2.2.1, if_pos (zne (by omega)), if_pos rfl, if_neg (not_not_intro rfl), if_neg (zne (by omega))]
      by_cases k1 : k = 1
      · have hm : ¬ m = 0 := fun e => q ⟨k1, (q5 k1).mpr e⟩
        rw [if_neg (not_not_intro (zeq k1)), if_pos (zlne (by omega))]
      · rw [if_pos (zne (by omega))]
/-- s, cut: the way into the two writers -/
theorem sC {s : zS} {F : Int32} {W pr su k c : Int} {a n : Nat} {t : List Int} (h : CH s F W pr 115 su k c a n t) (hk : 1 ≤ k ∧ k ≤ 9) : f64 s = zb0 (f65 s) (fun s1 => zb0 (f83 (r53 s1) s1) (fun s2 => some s2)) := by
  unfold f64
  rw [h.entry.2.1, if_pos (zne (by omega)), h.entry.1, if_neg (zne (by omega)), if_neg (zne (by omega)), if_neg (zne (by omega)), if_neg (zne (by omega)), if_pos rfl]
theorem sM {s : zS} {F : Int32} {W pr su k m : Int} {a : Nat} {t : List Int} (h : MH s F W pr 115 su k m a t) (hk : 1 ≤ k ∧ k ≤ 9) : f202 s = zb0 (f203 (zi k) (zl m) s) (fun s1 => f202_150 s1) := by
  rw [m202_entry h (by omega) (.inr (.inl rfl))]
  unfold f202_49 f202_90
  rw [h.2.2.2.1, if_pos (zne (by omega)), if_neg (zne (by omega)), if_neg (zne (by omega)), if_neg (not_not_intro rfl), if_pos (zne (by omega)), if_pos (zne (by omega))]
theorem CV_s1 {F : Int32} {W pr su c m : Int} {a n : Nat} {t : List Int} (ha : arel 1 c m t) (hp1 : -1 ≤ pr) (hp2 : pr ≤ 1100) : CV F W pr 115 su 1 c m a n t := by
  obtain ⟨w1, w2, w3⟩ := lits_words
  obtain ⟨q1, q2, q3, q4, q5, _⟩ := ha
  unfold inL at q3 q4
  have h5 := q5 rfl
  have go : ∀ c1 c2 : Nat, c1 < 78 → c2 < 78 → lit c1 = lit c2 → (∀ s, CH s F W pr 115 su 1 c a n t → f65 s = f65_76 c1 s) → (∀ s, f203 (zi 1) (zl m) s = f203_21 c2 s) → CV F W pr 115 su 1 c m a n t := by
    intro c1 c2 l1 l2 e e1 e2
    refine CV_word (c1 := c1) (c2 := c2) l1 l2 e hp1 hp2 (fun s h => ?_) (fun s h => ?_)
    · rw [sC h (by omega), e1 s h]
      unfold f65_76
      cases f71 c1 s <;> rfl
    · rw [sM h (by omega), e2 s]
      unfold f203_21
      cases f176 c2 s <;> rfl
  by_cases q : c = 0
  · have hm : m = 0 := h5.mp q
    subst q hm
    refine go 14 60 (by omega) (by omega) w1 (fun s h => ?_) (fun s => ?_)
    · unfold f65
      rw [h.entry.2.1, if_pos rfl, h.entry.2.2, if_neg (not_not_intro rfl)]
    · unfold f203
      rw [if_neg (not_not_intro rfl), if_neg (not_not_intro rfl)]
  · have hm : ¬ m = 0 := fun e => q (h5.mpr e)
    refine go 16 61 (by omega) (by omega) w2 (fun s h => ?_) (fun s => ?_)
    · unfold f65
      rw [h.entry.2.1, if_pos rfl, h.entry.2.2, if_pos (zlne (by omega))]
    · unfold f203
      rw [if_neg (not_not_intro rfl), if_pos (zlne (by omega))]
theorem sgn_asc (v : Int) : asc ((if v < 0 then [45] else []) ++ ds v.natAbs (kk v.natAbs 1)) := by
  refine asc.append ?_ (ds_asc _ _)
  split
  · intro x hx
    rcases List.mem_cons.mp hx with rfl | hx
    · omega
    · cases hx
  · exact fun x hx => by cases hx
theorem sgn_len {v : Int} (h : inL v) : ((if v < 0 then [45] else []) ++ ds v.natAbs (kk v.natAbs 1)).length ≤ 20 := by
  have hk : kk v.natAbs 1 ≤ 19 := by
    refine kk_le ?_ (by decide) (by decide)
    have : (10 : Nat) ^ 19 = 10000000000000000000 := by decide
    unfold inL at h
    omega
  rw [List.length_append, ds_len]
  split
  · show 1 + _ ≤ 20
    omega
  · show 0 + _ ≤ 20
    omega
theorem CV_s36 {F : Int32} {W pr su k c m : Int} {a n : Nat} {t : List Int} (ha : arel k c m t) (hk : 3 ≤ k ∧ k ≤ 6) (hp1 : -1 ≤ pr) (hp2 : pr ≤ 1100) : CV F W pr 115 su k c m a n t := by
  obtain ⟨q1, q2, q3, q4, q5, q6, _⟩ := ha
  have hcm : c = m := q6 (by omega)
  subst hcm
  refine CV_cut (wc := f65) (wm := f203 (zi k) (zl c)) (L := (if c < 0 then [45] else []) ++ ds c.natAbs (kk c.natAbs 1)) (sgn_asc c) (by have := sgn_len q3; omega) hp1 hp2 (fun s h => sC h (by omega)) (fun s h hP => ?_) (fun s h => sM h (by omega)) (fun s h hM => ?_)
  · obtain ⟨s1, a1, a2, a3⟩ := hP.signed q3.1 q3.2 (by show 0 ≤ 1400; omega)
    refine ⟨s1, ?_, a2, a3.up rfl rfl⟩
    unfold f65
    have n78 : ¬ (zi k = zi 7 ∨ zi k = zi 8) := fun h => h.elim (zne (by omega)) (zne (by omega))
    rw [h.entry.2.1, if_neg (zne (by omega)), if_neg (zne (by omega)), if_neg n78, if_neg (zne (by omega)), h.entry.2.2, a1]
    rfl
  · obtain ⟨s1, a1, a2, a3⟩ := hM.signed q3.1 q3.2 (by show 0 ≤ 10000; omega)
    refine ⟨s1, ?_, ?_, R6.fr a3 h.2.2.2.2.2.2.2.2.2.2 rfl rfl rfl rfl rfl rfl, a3.up rfl rfl⟩
    · unfold f203
      rw [if_pos (zne (by omega)), if_pos (zne (by omega)), if_neg (zngt (by omega)), a1]
      rfl
    · rw [List.nil_append] at a2
      have e0 : ∀ x : Nat, (0 : Int) + x = x := fun x => by omega
      rw [e0] at a2
      exact a2
/-! texts -/
theorem f65_125_loop {t : List Int} (ha : asc t) (ht : t.length ≤ 200) {a n : Nat} (han : a < n) (hn : n ≤ 24) {z : Int} : ∀ (d i fu : Nat) (s : zS) (l : List Int), d + i = t.length → d < fu → PC s l 0 z → l.length + d ≤ 1600 → s.2.1 12 9 = zl t.length → s.1 12 7 = zi (a + 1 : Nat) → s.1 8 3 = zi n → isL (fun j => s.1 11 (200 * a + j)) t →
    ∃ s', f65_125 fu (zi i) s = some s' ∧ PC s' (l ++ t.drop i) 0 z ∧ fr [13, 14] [] s s' := by
  intro d
  induction d with
  | zero =>
    intro i fu s l hd hf hP hl h9 h7 h8 hT
    obtain ⟨fu, rfl⟩ : ∃ k, fu = k + 1 := ⟨fu - 1, by omega⟩
    refine ⟨s, ?_, by rw [List.drop_eq_nil_of_le (by omega), List.append_nil]; exact hP, fr.refl⟩
    show b65_125 (f65_125 fu) _ _ = _
    unfold b65_125 r266
    rw [h9, zI2L_zi (by omega) (by omega)]
    rw [if_neg (show ¬ zl (t.length : Int) > zl 200 from zlngt (by omega)), if_pos (zlge (by omega))]
  | succ d ih =>
    intro i fu s l hd hf hP hl h9 h7 h8 hT
    obtain ⟨fu, rfl⟩ : ∃ k, fu = k + 1 := ⟨fu - 1, by omega⟩
    have hi : i < t.length := by omega
    have hv := ha _ (List.getElem_mem hi)
    obtain ⟨s1, a1, a2, a3⟩ := hP.add (by omega) (b := t[i]) (by omega) (by omega)
    have x11 : s1.1 11 = s.1 11 := a3.f rfl (by decide)
    obtain ⟨s', b1, b2, b3⟩ := ih (i + 1) fu s1 (l ++ [t[i]]) (by omega) (by omega) a2 (by rw [List.length_append]; show l.length + 1 + d ≤ 1600; omega) ((a3.2.1 12 9 rfl).trans h9) ((congrFun (a3.f (a := 12) rfl (by decide)) 7).trans h7) ((congrFun (a3.f (a := 8) rfl (by decide)) 3).trans h8) (by rw [x11]; exact hT)
    refine ⟨s', ?_, ?_, a3.trans b3⟩
    · have e36 : f36 (zi (a + 1 : Nat)) (zi i) s = some (zi t[i], s) := by
        unfold f36 f36_29
        rw [if_neg (znlt (by omega)), h8, if_neg (zngt (by omega)), if_neg (znlt (by omega)), if_neg (znge (by omega)), if_neg (zne (by omega)), zi_sub, zi_mul, zi_add, if_pos (zi_ix (by omega) (by omega) (by omega)), zi_nat (by omega) (by omega)]
        have e : ((((a + 1 : Nat) : Int) - 1) * 200 + (i : Int)).toNat = 200 * a + i := by omega
        rw [e]
        have := hT.get hi
        rw [this]
      show b65_125 (f65_125 fu) _ _ = _
      unfold b65_125 r266
      rw [h9, zI2L_zi (by omega) (by omega)]
      rw [if_neg (show ¬ zl (t.length : Int) > zl 200 from zlngt (by omega)), if_neg (zlnge (by omega)), h7, e36, zb1_mk, a1, zb0_mk, zi_add]
      exact b1
    · rw [List.append_assoc] at b2
      rw [List.drop_eq_getElem_cons hi]
      exact b2
theorem f203_64_loop {t : List Int} (ha : asc t) (ht : t.length ≤ 200) {a : Nat} (han : a < 24) : ∀ (d i fu : Nat) (s : zS) (l : List Int) (w : Int), d + i = t.length → d < fu → MD s l w → l.length + d ≤ 1600 → s.1 24 35 = zi a → s.1 30 a = zi t.length → isL (fun j => s.1 28 (200 * a + j)) t →
    ∃ s', f203_64 fu (zi i) s = some s' ∧ MD s' (l ++ t.drop i) (w + d) ∧ fr [39] [30, 31] s s' := by
  intro d
  induction d with
  | zero =>
    intro i fu s l w hd hf hP hl h35 h30 hT
    obtain ⟨fu, rfl⟩ : ∃ k, fu = k + 1 := ⟨fu - 1, by omega⟩
    refine ⟨s, ?_, ?_, fr.refl⟩
    · show b203_64 (f203_64 fu) _ _ = _
      unfold b203_64
      rw [h35, if_pos (zi_ix (by omega) (by omega) (by omega)), zi_toNat (by omega), h30, if_pos (zge (by omega))]
    · rw [List.drop_eq_nil_of_le (by omega), List.append_nil]
      have e0 : w + ((0 : Nat) : Int) = w := by omega
      rw [e0]
      exact hP
  | succ d ih =>
    intro i fu s l w hd hf hP hl h35 h30 hT
    obtain ⟨fu, rfl⟩ : ∃ k, fu = k + 1 := ⟨fu - 1, by omega⟩
    have hi : i < t.length := by omega
    have hv := ha _ (List.getElem_mem hi)
    obtain ⟨s1, a1, a2, a3⟩ := hP.add (by omega) (b := t[i]) (by omega) (by omega)
    have x28 : s1.1 28 = s.1 28 := a3.f rfl (by decide)
    obtain ⟨s', b1, b2, b3⟩ := ih (i + 1) fu s1 (l ++ [t[i]]) (w + 1) (by omega) (by omega) a2 (by rw [List.length_append]; show l.length + 1 + d ≤ 1600; omega) ((a3.1 24 35 rfl (fun _ => rfl)).trans h35) ((congrFun (a3.f (a := 30) rfl (by decide)) a).trans h30) (by rw [x28]; exact hT)
    refine ⟨s', ?_, ?_, a3.trans b3⟩
    · show b203_64 (f203_64 fu) _ _ = _
      unfold b203_64
      have e28 : s.1 28 (200 * a + i) = zi t[i] := hT.get hi
      have e : ((200 : Int) * (a : Int) + (i : Int)).toNat = 200 * a + i := by omega
      rw [h35, if_pos (zi_ix (by omega) (by omega) (by omega)), zi_toNat (by omega), h30, if_neg (znge (by omega)), zi_mul, zi_add, if_pos (zi_ix (by omega) (by omega) (by omega)), zi_nat (by omega) (by omega), e, e28, a1, zb0_mk, zi_add]
      exact b1
    · rw [List.append_assoc] at b2
      rw [List.drop_eq_getElem_cons hi]
      have e1 : w + 1 + (d : Int) = w + ((d + 1 : Nat) : Int) := by omega
      rw [e1] at b2
      exact b2
theorem CV_s9 {F : Int32} {W pr su c m : Int} {a n : Nat} {t : List Int} (ha : arel 9 c m t) (han : a < n) (hn : n ≤ 24) (hp1 : -1 ≤ pr) (hp2 : pr ≤ 1100) : CV F W pr 115 su 9 c m a n t := by
  obtain ⟨_, _, _, _, _, _, _, _, _, _, _, q12⟩ := ha
  obtain ⟨p1, p2, p3⟩ := q12 rfl
  subst p1
  refine CV_cut (wc := f65) (wm := f203 (zi 9) (zl m)) (L := t) p3 (by omega) hp1 hp2 (fun s h => sC h (by omega)) (fun s h hP => ?_) (fun s h => sM h (by omega)) (fun s h hM => ?_)
  · obtain ⟨s1, a1, a2, a3⟩ := f65_125_loop p3 p2 han hn t.length 0 zF s [] (by omega) (by unfold zF; omega) hP (by show 0 + _ ≤ 1600; omega) h.entry.2.2 h.2.2.2.2.2.1 h.2.2.2.2.2.2.2.2.1 (h.2.2.2.2.2.2.2.2.2.2.2 rfl)
    refine ⟨s1, ?_, a2, a3.up rfl rfl⟩
    unfold f65
    have n78 : ¬ (zi 9 = zi 7 ∨ zi 9 = zi 8) := fun h => h.elim (zne (by omega)) (zne (by omega))
    rw [h.entry.2.1, if_neg (zne (by omega)), if_neg (zne (by omega)), if_neg n78, if_pos rfl]
    exact a1
  · obtain ⟨s1, a1, a2, a3⟩ := f203_64_loop p3 p2 (a := a) (by omega) t.length 0 zF s [] 0 (by omega) (by unfold zF; omega) hM (by show 0 + _ ≤ 1600; omega) h.2.2.2.2.2.1 (h.2.2.2.2.2.2.2.2.2.1 rfl).1 (h.2.2.2.2.2.2.2.2.2.1 rfl).2
    refine ⟨s1, ?_, ?_, R6.fr a3 h.2.2.2.2.2.2.2.2.2.2 rfl rfl rfl rfl rfl rfl, a3.up rfl rfl⟩
    · unfold f203
      rw [if_pos (zne (by omega)), if_pos (zne (by omega)), if_pos (zgt (by omega)), if_neg (not_not_intro rfl)]
      exact a1
    · rw [List.nil_append, List.drop_zero] at a2
      have e0 : (0 : Int) + (t.length : Nat) = (t.length : Nat) := by omega
      rw [e0] at a2
      exact a2
/-! d -/
theorem laid_PR {F : Int32} {W m h : Int} {D T : List Int} (hA : asc (laidA F m h)) (hB : asc (laidB F m 1 D T)) (hl : (laidA F m h ++ laidB F m 1 D T).length ≤ 1600) (h16 : hasF F 16 → ¬ hasF F 1) : PR (laidA F m h ++ laidB F m 1 D T) 0 (zat F (laidA F m h).length) (laidL F W m h 1 D T) (laidL F W m h 1 D T).length W F := by
  refine ⟨(hA.append hB).byt, hl, Int.le_refl _, by omega, ?_⟩
  unfold laidL laidZ zat
  by_cases q : hasF F 16
  · right
    rw [if_pos q, if_pos ⟨q, rfl⟩]
    refine ⟨by omega, by rw [List.length_append]; omega, rfl, h16 q, ?_, rfl⟩
    unfold fillL
    rw [Int.toNat_natCast, List.take_left, List.drop_left]
  · left
    rw [if_neg q, if_neg (fun h => q h.1), List.nil_append]
    exact ⟨rfl, rfl, by omega⟩
theorem sgnL_asc (F : Int32) (m : Int) : asc (sgnL F m) := by
  unfold sgnL
  repeat' split
  all_goals
    intro v hv
    first
    | (rcases List.mem_cons.mp hv with rfl | hv
       · omega
       · cases hv)
    | cases hv
theorem clsL_asc (F : Int32) (m : Int) : asc (clsL F m) := by
  unfold clsL
  split
  · intro v hv
    rcases List.mem_cons.mp hv with rfl | hv
    · omega
    · cases hv
  · intro v hv
    cases hv
theorem dsC_asc (c : Int) (N : Nat) : ∀ k, asc (dsC c N k)
  | 0 => fun v hv => by cases hv
  | k + 1 => by
    intro v hv
    have ih := dsC_asc c N k
    rcases List.mem_cons.mp hv with rfl | hv
    · omega
    · split at hv
      · rcases List.mem_cons.mp hv with rfl | hv
        · omega
        · exact ih v hv
      · exact ih v hv
theorem flt_16_1 {F : Int32} {W pr cv : Int} (h : flt F 0 W pr cv = 0) : hasF F 16 → ¬ hasF F 1 := by
  intro h16 h1
  unfold flt at h
  rw [if_neg (show ¬ (0 : Int) = 1 by decide)] at h
  repeat' split at h
  all_goals first | omega | (rename_i hh; exact hh ⟨h1, h16⟩) | skip
  all_goals (exfalso; rename_i x1 x2 x3 x4 x5 x6; first | exact x3 ⟨h1, h16⟩ | exact x4 ⟨h1, h16⟩ | exact x2 ⟨h1, h16⟩ | exact x5 ⟨h1, h16⟩ | exact x6 ⟨h1, h16⟩ | exact x1 ⟨h1, h16⟩)
theorem CV_d {F : Int32} {W pr su k c m : Int} {a n : Nat} {t : List Int} (hv : vald F W pr 100 k c m t) (hk : 3 ≤ k ∧ k ≤ 6) : CV F W pr 100 su k c m a n t := by
  obtain ⟨ha, _, _, hf, hW1, hW2, _, _, _⟩ := hv
  obtain ⟨q1, q2, q3, q4, q5, q6, _⟩ := ha
  have hcm : c = m := q6 (by omega)
  subst hcm
  have hkk : kk c.natAbs 1 ≤ 19 := by
    refine kk_le ?_ (by decide) (by decide)
    have : (10 : Nat) ^ 19 = 10000000000000000000 := by decide
    unfold inL at q3
    omega
  have hd := dsC_len (comF F) c.natAbs (kk c.natAbs 1)
  have hs := sgnL_len F (neg01 c)
  have hcl := clsL_len F (neg01 c)
  have eA : laidA F (neg01 c) 0 = sgnL F (neg01 c) := by
    unfold laidA hxL
    rw [if_neg (show ¬ (0 : Int) = 1 by decide), List.append_nil]
  have eB : laidB F (neg01 c) 1 (ds c.natAbs (kk c.natAbs 1)) [] = dsC (comF F) c.natAbs (kk c.natAbs 1) ++ clsL F (neg01 c) := by
    unfold laidB bodL comF
    rw [List.append_nil]
    by_cases q : hasF F 32
    · rw [if_pos ⟨q, rfl⟩, if_pos q, cmD_ds]
    · rw [if_neg (fun h => q h.1), if_neg q, dsC_ds]
  have hR := laid_PR (F := F) (W := W) (m := neg01 c) (h := 0) (D := ds c.natAbs (kk c.natAbs 1)) (T := []) (by rw [eA]; exact sgnL_asc _ _) (by rw [eB]; exact (dsC_asc _ _ _).append (clsL_asc _ _)) (by rw [eA, eB, List.length_append, List.length_append]; omega) (flt_16_1 hf)
  refine ⟨_, _, _, _, _, hR, fun s h hP => ?_, fun s h hM => ?_⟩
  · obtain ⟨s1, a1, a2, a3⟩ := f66_eq hP h.1 h.entry.2.2 q3.1 q3.2
    refine ⟨s1, ?_, ?_, a3.up rfl rfl⟩
    · unfold f64
      rw [h.entry.2.1, if_pos (zne (by omega)), h.entry.1, if_neg (zne (by omega)), if_neg (zne (by omega)), if_pos rfl, a1]
      rfl
    · rw [eA, eB]
      exact a2
  · obtain ⟨s1, a1, a2, a3⟩ := m183_10 hM (a := a) (k := k) ⟨h.2.2.2.2.2.2.1, h.2.2.2.2.2.1, h.2.2.2.2.2.2.2.1, h.2.2.2.2.2.2.2.2.1⟩ q3.1 q3.2 h.1 h.2.1 (by omega) hW2
    refine ⟨s1, ?_, a2, R6.fr a3 h.2.2.2.2.2.2.2.2.2.2 rfl rfl rfl rfl rfl rfl, a3.up rfl rfl⟩
    rw [m202_entry h (by omega) (.inr (.inr (.inr (.inl rfl))))]
    unfold f202_49
    rw [h.2.2.2.1, if_pos (zne (by omega)), if_neg (zne (by omega)), if_neg (zne (by omega)), if_pos (zne (by omega)), if_pos (zne (by omega)), if_neg (not_not_intro rfl), a1]
    rfl
