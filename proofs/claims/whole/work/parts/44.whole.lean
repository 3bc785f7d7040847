/-! d: wholes in tens -/
theorem r51_0 {F : Int32} {m : Int} {s : zS} (h : s.1 7 2 = F) (hf : ¬ hasF F m) : r51 (zi m) s = zi 0 := by
  unfold r51
  rw [h, if_pos (Classical.not_not.mp hf)]
theorem r51_1 {F : Int32} {m : Int} {s : zS} (h : s.1 7 2 = F) (hf : hasF F m) : r51 (zi m) s = zi 1 := by
  unfold r51
  rw [h, if_neg hf]
theorem PC.nil {s : zS} {l : List Int} {g z : Int} (h : PC s l g z) : PC s (l ++ []) g z := by
  rw [List.append_nil]
  exact h
theorem PC.opn {s : zS} {l : List Int} {g z : Int} (h : PC s l g z) {F : Int32} (hF : s.1 7 2 = F) {m : Int} (hm : m = 0 ∨ m = 1) (hl : l.length < 1600) : ∃ s', f75 (zi m) s = some s' ∧ PC s' (l ++ sgnL F m) g z ∧ fr [13, 14] [] s s' := by
  have n01 : ¬ zi 1 = zi 0 := zne (by omega)
  have one : ∀ b : Int, -128 ≤ b → b ≤ 127 → ∃ s1, f70 (zi b) s = some s1 ∧ PC s1 (l ++ [b]) g z ∧ fr [13, 14] [] s s1 := fun b h1 h2 => h.add hl h1 h2
  unfold f75 f75_21 sgnL
  rcases hm with rfl | rfl
  · rw [if_pos rfl, if_neg (show ¬ (0 : Int) = 1 by decide)]
    by_cases q2 : hasF F 4
    · obtain ⟨s1, a1, a2, a3⟩ := one 43 (by omega) (by omega)
      rw [r51_1 hF q2, if_neg n01, if_pos q2, a1]
      exact ⟨s1, rfl, a2, a3⟩
    · rw [r51_0 hF q2, if_pos rfl, if_neg q2]
      by_cases q3 : hasF F 8
      · obtain ⟨s1, a1, a2, a3⟩ := one 32 (by omega) (by omega)
        rw [r51_1 hF q3, if_neg n01, if_pos q3, a1]
        exact ⟨s1, rfl, a2, a3⟩
      · rw [r51_0 hF q3, if_pos rfl, if_neg q3]
        exact ⟨s, rfl, h.nil, fr.refl⟩
  · rw [if_neg n01, if_pos rfl]
    by_cases q : hasF F 64
    · obtain ⟨s1, a1, a2, a3⟩ := one 40 (by omega) (by omega)
      rw [r51_1 hF q, if_neg n01, if_pos q, a1]
      exact ⟨s1, rfl, a2, a3⟩
    · obtain ⟨s1, a1, a2, a3⟩ := one 45 (by omega) (by omega)
      rw [r51_0 hF q, if_pos rfl, if_neg q, a1]
      exact ⟨s1, rfl, a2, a3⟩
theorem PC.close {s : zS} {l : List Int} {g z : Int} (h : PC s l g z) {F : Int32} (hF : s.1 7 2 = F) {m : Int} (hm : m = 0 ∨ m = 1) (hl : l.length < 1600) : ∃ s', f76 (zi m) s = some s' ∧ PC s' (l ++ clsL F m) g z ∧ fr [13, 14] [] s s' := by
  have n01 : ¬ zi 1 = zi 0 := zne (by omega)
  unfold f76 clsL
  rcases hm with rfl | rfl
  · rw [if_pos rfl, if_neg (fun h => absurd h.1 (by decide))]
    exact ⟨s, rfl, h.nil, fr.refl⟩
  · rw [if_neg n01]
    by_cases q : hasF F 64
    · obtain ⟨s1, a1, a2, a3⟩ := h.add hl (b := 41) (by omega) (by omega)
      rw [r51_1 hF q, if_neg n01, if_pos ⟨rfl, q⟩, a1]
      exact ⟨s1, rfl, a2, a3⟩
    · rw [r51_0 hF q, if_pos rfl, if_neg (fun h => q h.2)]
      exact ⟨s, rfl, h.nil, fr.refl⟩
/-- where zeros go -/
def zat (F : Int32) (n : Nat) : Int := if hasF F 16 then (n : Int) else -1
theorem PC.mark {s : zS} {l : List Int} {g z : Int} (h : PC s l g z) {F : Int32} (hF : s.1 7 2 = F) : ∃ s', f77 s = some s' ∧ PC s' l g (zat F l.length) ∧ fr [13] [] s s' := by
  have n01 : ¬ zi 1 = zi 0 := zne (by omega)
  unfold f77 zat
  by_cases q : hasF F 16
  · rw [r51_1 hF q, if_neg n01, if_pos q]
    refine ⟨_, rfl, ⟨h.1, h.2.1, h.2.2.1, ?_⟩, fr.refl.sI (.inl rfl)⟩
    exact h.1
  · rw [r51_0 hF q, if_pos rfl, if_neg q]
    exact ⟨_, rfl, ⟨h.1, h.2.1, h.2.2.1, rfl⟩, fr.refl.sI (.inl rfl)⟩
def comF (F : Int32) : Int := if hasF F 32 then 1 else 0
theorem r51_com {F : Int32} {s : zS} (h : s.1 7 2 = F) : r51 (zi 32) s = zi (comF F) := by
  unfold comF
  by_cases q : hasF F 32
  · rw [r51_1 h q, if_pos q]
  · rw [r51_0 h q, if_neg q]
theorem comF01 (F : Int32) : comF F = 0 ∨ comF F = 1 := b01
def neg01 (v : Int) : Int := if v < 0 then 1 else 0
theorem neg01_01 (v : Int) : neg01 v = 0 ∨ neg01 v = 1 := b01
theorem f66_eq {s : zS} {F : Int32} {v : Int} (hP : PC s [] 0 (-1)) (hF : s.1 7 2 = F) (hv : s.2.1 12 9 = zl v) (h1 : -9223372036854775808 ≤ v) (h2 : v < 9223372036854775808) :
    ∃ s', f66 s = some s' ∧ PC s' (sgnL F (neg01 v) ++ (dsC (comF F) v.natAbs (kk v.natAbs 1) ++ clsL F (neg01 v))) 0 (zat F (sgnL F (neg01 v)).length) ∧ fr [13, 14] [] s s' := by
  have hs := sgnL_len F (neg01 v)
  have hk : kk v.natAbs 1 ≤ 19 := by
    refine kk_le ?_ (by decide) (by decide)
    have : (10 : Nat) ^ 19 = 10000000000000000000 := by decide
    omega
  have hd := dsC_len (comF F) v.natAbs (kk v.natAbs 1)
  have e0 : f66 s = f66_18 (zi (neg01 v)) s := by
    unfold f66 neg01
    rw [hv]
    by_cases q : v < 0
    · rw [if_neg (zlnge (by omega)), if_pos q]
    · rw [if_pos (zlge (by omega)), if_neg q]
  obtain ⟨s1, a1, a2, a3⟩ := hP.opn hF (neg01_01 v) (by show 0 < 1600; omega)
  rw [List.nil_append] at a2
  have hF1 : s1.1 7 2 = F := (congrFun (a3.f rfl (by decide)) 2).trans hF
  obtain ⟨s2, b1, b2, b3⟩ := a2.mark hF1
  have hF2 : s2.1 7 2 = F := (congrFun (b3.f rfl (by decide)) 2).trans hF1
  have f12 : fr [13, 14] [] s s2 := a3.trans (b3.up rfl rfl)
  have hv2 : s2.2.1 12 9 = zl v := (f12.2.1 12 9 rfl).trans hv
  obtain ⟨s3, c1, c2, c3⟩ := b2.size h1 h2 (a := 1) (by omega) (comF01 F) (by omega)
  have f13 : fr [13, 14] [] s s3 := f12.trans c3
  have hv3 : s3.2.1 12 9 = zl v := (f13.2.1 12 9 rfl).trans hv
  have hF3 : s3.1 7 2 = F := (congrFun (f13.f rfl (by decide)) 2).trans hF
  obtain ⟨s4, d1, d2, d3⟩ := c2.close hF3 (neg01_01 v) (by rw [List.length_append]; omega)
  refine ⟨s4, ?_, ?_, f13.trans d3⟩
  · rw [e0]
    unfold f66_18 f66_75
    rw [a1, zb0_mk, b1, zb0_mk, hv2, r51_com hF2]
    show zb0 (f78 (zl v) (zi (1 : Nat)) (zi (comF F)) s2) _ = _
    rw [c1, zb0_mk, hv3]
    have e1 : (if zl v ≥ zl 0 then zb0 (f76 (zi 0) s3) (fun s1 => some s1) else zb0 (f76 (zi 1) s3) (fun s1 => some s1)) = zb0 (f76 (zi (neg01 v)) s3) (fun s1 => some s1) := by
      unfold neg01
      by_cases q : v < 0
      · rw [if_neg (zlnge (by omega)), if_pos q]
      · rw [if_pos (zlge (by omega)), if_neg q]
    rw [e1, d1]
    rfl
  · rw [List.append_assoc] at d2
    exact d2
/-! the reference's -/
theorem BD.of {A B : List Nat} {s s' : zS} {l : List Int} (h : fr A B s s') (hB : BD s l) (c1 : A.contains 24 = false) (c2 : A.contains 40 = false) (b1 : B.contains 33 = false) : BD s' l := by
  unfold BD
  rw [h.1 24 33 c1 (fun _ => b1), h.f c2 (by decide)]
  exact hB
theorem f183_85_loop {v : Int} (h1 : -9223372036854775808 ≤ v) (h2 : v < 9223372036854775808) {m : Int} : ∀ (i n : Nat) (s : zS) (b : List Int), i ≤ 18 → i + 1 < n → BD s b → b.length + i + 1 ≤ 6000 →
    ∃ s', f183_85 n (zi m) (zl v) (zl ((10 ^ i : Nat) : Int)) s = zb0 (f182 (zi m) (zi 0) (zi 1) s') (fun s1 => some s1) ∧ BD s' (b ++ ds v.natAbs (i + 1)) ∧ fr [40] [33] s s' := by
  have step : ∀ (i n : Nat) (s s1 : zS), i ≤ 18 → f181 (zi (48 + ((v.natAbs / 10 ^ i % 10 : Nat) : Int))) s = some s1 → f183_85 (n + 1) (zi m) (zl v) (zl ((10 ^ i : Nat) : Int)) s = f183_85 n (zi m) (zl v) (zl (if i = 0 then 0 else ((10 ^ (i - 1) : Nat) : Int))) s1 := by
    intro i n s s1 hi a1
    have hp := p18 hi
    have hp0 := p_pos i
    have hd : v.natAbs / 10 ^ i % 10 < 10 := Nat.mod_lt _ (by decide)
    show b183_85 (f183_85 n) _ _ _ _ = _
    unfold b183_85 f183_120
    rw [if_neg (zlnle (by omega)), if_pos (zlne (by omega)), zdig h1 h2 hi, zstep hi]
    by_cases q : 0 ≤ v
    · rw [if_pos q, if_pos (zge (by omega)), zi_add, a1, zb0_mk]
    · rw [if_neg q]
      by_cases z0 : v.natAbs / 10 ^ i % 10 = 0
      · rw [z0] at a1 ⊢
        rw [if_pos (zge (by decide)), zi_add]
        show zb0 (f181 (zi (48 + ((0 : Nat) : Int))) s) _ = _
        rw [a1, zb0_mk]
      · rw [if_neg (znge (by omega)), zi_neg, zi_add, Int.neg_neg, a1, zb0_mk]
  intro i
  induction i with
  | zero =>
    intro n s b hi hn hB hl
    obtain ⟨n, rfl⟩ : ∃ k, n = k + 2 := ⟨n - 2, by omega⟩
    have hd : v.natAbs / 10 ^ 0 % 10 < 10 := Nat.mod_lt _ (by decide)
    obtain ⟨s1, a1, a2, a3⟩ := hB.add (by omega) (b := 48 + ((v.natAbs / 10 ^ 0 % 10 : Nat) : Int)) (by omega) (by omega)
    refine ⟨s1, ?_, a2, a3⟩
    rw [step 0 (n + 1) s s1 (by omega) a1]
    show b183_85 (f183_85 n) _ _ _ _ = _
    unfold b183_85
    rw [if_pos (zlle (by decide))]
  | succ i ih =>
    intro n s b hi hn hB hl
    obtain ⟨n, rfl⟩ : ∃ k, n = k + 1 := ⟨n - 1, by omega⟩
    have hd : v.natAbs / 10 ^ (i + 1) % 10 < 10 := Nat.mod_lt _ (by decide)
    obtain ⟨s1, a1, a2, a3⟩ := hB.add (by omega) (b := 48 + ((v.natAbs / 10 ^ (i + 1) % 10 : Nat) : Int)) (by omega) (by omega)
    obtain ⟨s', b1, b2, b3⟩ := ih n s1 _ (by omega) (by omega) a2 (by rw [List.length_append]; show b.length + 1 + i + 1 ≤ 6000; omega)
    refine ⟨s', ?_, ?_, a3.trans b3⟩
    · rw [step (i + 1) n s s1 hi a1]
      exact b1
    · rw [List.append_assoc] at b2
      exact b2
theorem f183_50_loop {v : Int} (h1 : -9223372036854775808 ≤ v) (h2 : v < 9223372036854775808) {m : Int} : ∀ (d k n : Nat) (s : zS), d + k = 18 → d < n → (k = 0 ∨ 10 ^ k ≤ v.natAbs) → BD s [] →
    ∃ s', f183_50 n (zi m) (zl v) (zl ((10 ^ k : Nat) : Int)) s = zb0 (f182 (zi m) (zi 0) (zi 1) s') (fun s1 => some s1) ∧ BD s' (ds v.natAbs (kk v.natAbs 1)) ∧ fr [40] [33] s s' := by
  have hN25 : v.natAbs < 10 ^ 25 := by
    have : (10 : Nat) ^ 25 = 10000000000000000000000000 := by decide
    omega
  have hdv : ∀ k, k ≤ 18 → v.natAbs / 10 ^ k ≤ v.natAbs := fun k _ => Nat.div_le_self _ _
  have stop : ∀ (k n : Nat) (s : zS), k ≤ 18 → v.natAbs < 10 ^ (k + 1) → (k = 0 ∨ 10 ^ k ≤ v.natAbs) → BD s [] → ∃ s', f183_50 (n + 1) (zi m) (zl v) (zl ((10 ^ k : Nat) : Int)) s = zb0 (f182 (zi m) (zi 0) (zi 1) s') (fun s1 => some s1) ∧ BD s' (ds v.natAbs (kk v.natAbs 1)) ∧ fr [40] [33] s s' := by
    intro k n s hk h1' h2' hB
    have hp0 := p_pos k
    have hp := p18 hk
    obtain ⟨e1, e2⟩ := ds_kk hN25 (show 1 ≤ 25 by decide) h1' h2' (by decide)
    obtain ⟨s', b1, b2, b3⟩ := f183_85_loop h1 h2 (m := m) k zF s [] hk (by unfold zF; omega) hB (by show 0 + k + 1 ≤ 6000; omega)
    refine ⟨s', ?_, ?_, b3⟩
    · refine Eq.trans ?_ b1
      show b183_50 (f183_50 n) _ _ _ _ = _
      unfold b183_50
      have h9 := div9.mpr h1'
      have h90 : (0 : Int) ≤ ((v.natAbs / 10 ^ k : Nat) : Int) := Int.natCast_nonneg _
      rw [if_pos (zlne (by omega)), zdivp h1 h2 hk]
      by_cases q : 0 ≤ v
      · rw [if_pos q, if_neg (zlngt (by omega)), if_pos (zlne (by omega)), if_pos (zlge (by omega))]
      · rw [if_neg q, if_neg (zlngt (by omega)), if_pos (zlne (by omega)), if_pos (zlge (by omega))]
    · have e0 : 1 - (k + 1) = 0 := by omega
      rw [e0] at e1
      rw [show ds v.natAbs (k + 1) = ds v.natAbs (kk v.natAbs 1) from e1, List.nil_append] at b2
      exact b2
  intro d
  induction d with
  | zero =>
    intro k n s hd hn hk hB
    obtain ⟨n, rfl⟩ : ∃ k, n = k + 1 := ⟨n - 1, by omega⟩
    refine stop k n s (by omega) ?_ hk hB
    have hk18 : k = 18 := by omega
    subst hk18
    have : (10 : Nat) ^ (18 + 1) = 10000000000000000000 := by decide
    omega
  | succ d ih =>
    intro k n s hd hn hk hB
    obtain ⟨n, rfl⟩ : ∃ k, n = k + 1 := ⟨n - 1, by omega⟩
    have hp0 := p_pos k
    have hp := p18 (show k + 1 ≤ 18 by omega)
    have hp' := p18 (show k ≤ 18 by omega)
    by_cases h1' : v.natAbs < 10 ^ (k + 1)
    · exact stop k n s (by omega) h1' hk hB
    · obtain ⟨s', b1, b2, b3⟩ := ih (k + 1) n s (by omega) (by omega) (.inr (by omega)) hB
      refine ⟨s', ?_, b2, b3⟩
      refine Eq.trans ?_ b1
      have h9 : ¬ v.natAbs / 10 ^ k ≤ 9 := fun h => h1' (div9.mp h)
      have hle := hdv k (by omega)
      have e1 : ((10 ^ k : Nat) : Int) * 10 = ((10 ^ (k + 1) : Nat) : Int) := by rw [Nat.pow_succ]; omega
      show b183_50 (f183_50 n) _ _ _ _ = _
      unfold b183_50
      rw [if_pos (zlne (by omega)), zdivp h1 h2 (show k ≤ 18 by omega), zl_mul, e1]
      by_cases q : 0 ≤ v
      · rw [if_pos q, if_pos (zlgt (by omega))]
      · rw [if_neg q, if_neg (zlngt (by omega)), if_pos (zlne (by omega)), if_neg (zlnge (by omega))]
theorem ds_dgt (N : Nat) : ∀ k v, v ∈ ds N k → dgt v
  | 0, v, hv => by cases hv
  | k + 1, v, hv => by
    rcases List.mem_cons.mp hv with rfl | hv
    · unfold dgt
      omega
    · exact ds_dgt N k v hv
/-- the argument that the reference looks at -/
def MA (s : zS) (a : Nat) (k : Int) (v : Int64) : Prop := a < 24 ∧ s.1 24 35 = zi a ∧ s.1 29 a = zi k ∧ s.2.1 31 a = v
theorem m183_10 {s : zS} {F : Int32} {W v : Int} {a : Nat} {k : Int} (hM : MD s [] 0) (hA : MA s a k (zl v)) (h1 : -9223372036854775808 ≤ v) (h2 : v < 9223372036854775808) (h15 : s.1 24 15 = F) (h16 : s.1 24 16 = zi W) (hW : -1 ≤ W) (hW2 : W ≤ 2000) :
    ∃ s', f183 (zi 10) s = some s' ∧ MD s' (laidL F W (neg01 v) 0 1 (ds v.natAbs (kk v.natAbs 1)) []) (laidL F W (neg01 v) 0 1 (ds v.natAbs (kk v.natAbs 1)) []).length ∧ fr [39, 40] [30, 31, 33] s s' := by
  have hk : kk v.natAbs 1 ≤ 19 := by
    refine kk_le ?_ (by decide) (by decide)
    have : (10 : Nat) ^ 19 = 10000000000000000000 := by decide
    omega
  have hf0 : fr [39, 40] [30, 31, 33] s (setI s 24 33 (zi 0)) := fr.refl.sI (.inr ⟨rfl, rfl⟩)
  obtain ⟨s1, a1, a2, a3⟩ := f183_50_loop h1 h2 (m := neg01 v) 18 0 zF (setI s 24 33 (zi 0)) rfl (by unfold zF; omega) (.inl rfl) ⟨rfl, isL_nil⟩
  have hM1 : MD s1 [] 0 := MD.mv a3 (show MD (setI s 24 33 (zi 0)) [] 0 from hM) rfl rfl rfl rfl
  obtain ⟨s2, b1, b2, b3⟩ := laid_eq (s := s1) (F := F) (W := W) (m := neg01 v) (h := 0) (zr := 1) (D := ds v.natAbs (kk v.natAbs 1)) (T := []) hM1 (by rw [List.append_nil]; exact a2) ((a3.1 24 15 rfl (fun _ => rfl)).trans h15) ((a3.1 24 16 rfl (fun _ => rfl)).trans h16) hW hW2 (neg01_01 v) (.inl rfl) (.inr rfl) (ds_dgt _ _) (fun v hv => by cases hv) (fun v r h => by cases h) (by rw [ds_len]; show _ + 0 ≤ 2000; omega) (by show 0 ≤ 1000; omega)
  refine ⟨s2, ?_, ?_, (hf0.trans (a3.up rfl rfl)).trans (b3.up rfl rfl)⟩
  · have e0 : f183 (zi 10) s = f183_50 zF (zi (neg01 v)) (zl v) (zl 1) (setI s 24 33 (zi 0)) := by
      unfold f183 neg01
      rw [hA.2.1, if_pos (zi_ix (by omega) (by have := hA.1; omega) (by have := hA.1; omega)), if_pos (zi_ix (by omega) (by have := hA.1; omega) (by have := hA.1; omega)), if_neg (not_not_intro rfl), zi_toNat (by have := hA.1; omega), hA.2.2.2]
      by_cases q : v < 0
      · rw [if_neg (zlnge (by omega)), if_pos q]
      · rw [if_pos (zlge (by omega)), if_neg q]
    rw [e0]
    refine Eq.trans a1 ?_
    rw [b1]
    rfl
  · rw [List.nil_append] at b2
    have e : (0 : Int) + ((laidL F W (neg01 v) 0 1 (ds v.natAbs (kk v.natAbs 1)) []).length : Nat) = ((laidL F W (neg01 v) 0 1 (ds v.natAbs (kk v.natAbs 1)) []).length : Nat) := by omega
    rw [e] at b2
    exact b2
