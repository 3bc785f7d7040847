/-! the relation of class and reference between two calls, and the simple calls -/
/-- pure part of a sound format: laid down in 36 -/
def R1 (s : zS) (l : List Int) : Prop := LN 1 s l ∧ MN 4 25 s l ∧ asc l
def R2 (P : List Int → Prop) (s : zS) (g : List Int) : Prop := LN 3 s g ∧ MN 34 26 s g ∧ asc g ∧ ((s.1 0 7 = zi 1 ∧ s.1 24 5 = zi g.length ∧ P g) ∨ (s.1 0 7 = zi 0 ∧ s.1 24 5 = zi (-1)))
def R3 (s : zS) (o : List Int) : Prop := LN 5 s o ∧ MN 6 27 s o ∧ byt o
def R4 (s : zS) : Prop := s.1 0 8 = s.1 24 7 ∧ s.1 0 9 = s.1 24 8
def AR (s : zS) (i : Nat) (k : Int) (t : List Int) : Prop := 0 ≤ k ∧ k ≤ 9 ∧ s.1 9 i = zi k ∧ s.1 29 i = zi k ∧
  (k = 1 → (s.2.1 10 i = zl 0 ↔ s.2.1 31 i = zl 0)) ∧ (2 ≤ k ∧ k ≤ 7 → s.2.1 10 i = s.2.1 31 i) ∧
  (k = 0 ∨ k = 2 → 0 ≤ (s.2.1 10 i).toInt ∧ (s.2.1 10 i).toInt ≤ 1114111) ∧ (k = 3 → -128 ≤ (s.2.1 10 i).toInt ∧ (s.2.1 10 i).toInt ≤ 127) ∧
  (k = 4 → -32768 ≤ (s.2.1 10 i).toInt ∧ (s.2.1 10 i).toInt ≤ 32767) ∧ (k = 5 → -2147483648 ≤ (s.2.1 10 i).toInt ∧ (s.2.1 10 i).toInt ≤ 2147483647) ∧
  (k = 8 → s.2.1 31 i = zI2L (zL2I (s.2.1 10 i))) ∧
  (k = 9 → s.2.1 10 i = zl t.length ∧ s.1 30 i = zi t.length ∧ t.length ≤ 200 ∧ isL (fun j => s.1 11 (200 * i + j)) t ∧ isL (fun j => s.1 28 (200 * i + j)) t ∧ asc t)
def R5 (s : zS) (n : Nat) : Prop := s.1 8 3 = zi n ∧ s.1 24 13 = zi n ∧ n ≤ 24 ∧ ∀ i, i < n → ∃ k t, AR s i k t
/-- a Decimal of the reference: nothing outside from .. to -/
def D6 (a : Nat) (s : zS) : Prop := ∃ b c : Nat, s.1 a 1 = zi b ∧ s.1 a 2 = zi c ∧ b ≤ c ∧ c ≤ 465 ∧ ∀ k, k < 465 → (k < b ∨ c ≤ k) → s.1 (a + 1) k = zi 0
def R6 (s : zS) : Prop := D6 32 s ∧ D6 34 s ∧ D6 36 s
def Inv (P : List Int → Prop) (s : zS) : Prop := (∃ l, R1 s l) ∧ (∃ g, R2 P s g) ∧ (∃ o, R3 s o) ∧ R4 s ∧ (∃ n, R5 s n) ∧ R6 s
/-- an op of the law: class, then reference, and the two answers alike -/
def opOK (P : List Int → Prop) (s : zS) (f g : zS → Option (Int32 × zS)) : Prop := ∃ k s1 b s2, f s = some (k, s1) ∧ g s1 = some (b, s2) ∧ r162 s2 = k ∧ (k = zi 0 → s2.2.1 41 0 = zI2L b) ∧ Inv P s2 ∧ s2.2.2 ≤ s.2.2 + 1
def opOKL (P : List Int → Prop) (s : zS) (f : zS → Option (Int32 × zS)) (g : zS → Option (Int64 × zS)) : Prop := ∃ k s1 b s2, f s = some (k, s1) ∧ g s1 = some (b, s2) ∧ r162 s2 = k ∧ (k = zi 0 → s2.2.1 41 0 = b) ∧ Inv P s2 ∧ s2.2.2 ≤ s.2.2 + 1
theorem ite_thr {α : Type} {s : zS} {n : Nat} (he : s.2.2 < 600000) : (if s.2.2 < 600000 then some ((.inr n : α ⊕ Nat), thr s) else none) = some (.inr n, thr s) := if_pos he
theorem z00 : (zi 0).toNatClampNeg = 0 := by decide
theorem ix01 : mIx (zi 0) 1 := zi_ix (by omega) (by omega) (by omega)
theorem law_end {k : Int32} {s2 : zS} {b : Int64} {R x y : Option (Int32 × zS)} (h1 : r162 s2 = k) (h2 : k = zi 0 → s2.2.1 41 0 = b) : (if (r162 s2) = k then if ¬ k = zi 0 then R else if mIx (zi 0) 1 then if (s2.2.1 41 ((zi 0).toNatClampNeg)) = b then R else x else none else y) = R := by
  rw [if_pos h1]
  by_cases hk : k = zi 0
  · rw [if_neg (not_not_intro hk), if_pos ix01, z00, if_pos (h2 hk)]
  · rw [if_pos hk]
/-! clear, kind, place -/
theorem op_clear {P : List Int → Prop} {s : zS} (h : Inv P s) : ∃ v s1 s2, f3 s = some (v, s1) ∧ f218 s1 = some (v, s2) ∧ Inv P s2 ∧ s2.2.2 ≤ s.2.2 + 1 := by
  obtain ⟨h1, h2, h3, h4, ⟨n, h5⟩, h6⟩ := h
  refine ⟨s.1 8 3, setI s 8 3 (zi 0), setI (setI (setI s 8 3 (zi 0)) 24 9 (zi 0)) 24 13 (zi 0), rfl, ?_, ⟨h1, h2, h3, h4, ⟨0, rfl, rfl, by omega, fun i hi => absurd hi (by omega)⟩, h6⟩, Nat.le_succ _⟩
  show some (s.1 24 13, setI (setI (setI s 8 3 (zi 0)) 24 9 (zi 0)) 24 13 (zi 0)) = _
  rw [h5.1, h5.2.1]
theorem op_kind {P : List Int → Prop} {s : zS} (h : Inv P s) : ∃ s1, f224 s = some (r8 s, s1) ∧ Inv P s1 ∧ s1.2.2 ≤ s.2.2 + 1 := by
  obtain ⟨h1, h2, h3, h4, h5, h6⟩ := h
  refine ⟨setI s 24 9 (zi 0), ?_, ⟨h1, h2, h3, h4, h5, h6⟩, Nat.le_succ _⟩
  show some (s.1 24 7, _) = some (s.1 0 8, _)
  rw [h4.1]
theorem op_place {P : List Int → Prop} {s : zS} (h : Inv P s) : ∃ s1, f225 s = some (r9 s, s1) ∧ Inv P s1 ∧ s1.2.2 ≤ s.2.2 + 1 := by
  obtain ⟨h1, h2, h3, h4, h5, h6⟩ := h
  refine ⟨setI s 24 9 (zi 0), ?_, ⟨h1, h2, h3, h4, h5, h6⟩, Nat.le_succ _⟩
  show some (s.1 24 8, _) = some (s.1 0 9, _)
  rw [h4.2]
/-! whole and real: an argument more -/
theorem upd_lt {f : Nat → Int32} {n i : Nat} {v : Int32} (h : i < n) : upd f n v i = f i := upd_ne (by omega)
theorem updL_eq (f : Nat → Int64) (i : Nat) (v : Int64) : vp_updL f i v i = v := by simp [vp_updL]
theorem updL_ne {f : Nat → Int64} {i j : Nat} {v : Int64} (h : j ≠ i) : vp_updL f i v j = f j := by simp [vp_updL, h]
/-- the class's new argument -/
def aC (s : zS) (n : Nat) (k : Int) (v : Int64) : zS := setI (setK (setB s 9 n (zi k)) 10 n v) 8 3 (zi (n + 1))
/-- the reference's -/
def aM (s : zS) (n : Nat) (k : Int) (v : Int64) (z : Int) : zS := setI (setB (setK (setB s 29 n (zi k)) 31 n v) 30 n (zi z)) 24 13 (zi (n + 1))
theorem f32_eq {s : zS} {n : Nat} (hn : n < 24) (h : s.1 8 3 = zi n) (k : Int) (v : Int64) : f32 (zi k) v s = some (zi (n + 1), aC s n k v) := by
  have e : r29 s = zi 0 := by
    unfold r29
    rw [h, if_pos (zlt (by omega))]
  unfold f32
  rw [e, if_neg (not_not_intro rfl), h, if_pos (zi_ix (by omega) (by omega) (by omega)), if_pos (zi_ix (by omega) (by omega) (by omega)), zi_add, zi_toNat (by omega)]
  rfl
theorem f219_eq {s : zS} {n : Nat} (hn : n < 24) (h : s.1 24 13 = zi n) (k : Int) (v : Int64) (z : Int) : f219 (zi k) v (zi z) s = some (zi (n + 1), aM s n k v z) := by
  unfold f219
  rw [h, if_pos (zi_ix (by omega) (by omega) (by omega)), if_pos (zi_ix (by omega) (by omega) (by omega)), if_pos (zi_ix (by omega) (by omega) (by omega)), zi_add, zi_toNat (by omega)]
  rfl
/-- older arguments stay, whatever comes behind them -/
theorem AR.of {s s' : zS} {i : Nat} {k : Int} {t : List Int} (h : AR s i k t) (e1 : s'.1 9 i = s.1 9 i) (e2 : s'.1 29 i = s.1 29 i) (e3 : s'.2.1 10 i = s.2.1 10 i) (e4 : s'.2.1 31 i = s.2.1 31 i) (e5 : s'.1 30 i = s.1 30 i) (e6 : ∀ j, j < 200 → s'.1 11 (200 * i + j) = s.1 11 (200 * i + j)) (e7 : ∀ j, j < 200 → s'.1 28 (200 * i + j) = s.1 28 (200 * i + j)) : AR s' i k t := by
  obtain ⟨q1, q2, q3, q4, q5, q6, q7, q8, q9, q10, q11, q12⟩ := h
  unfold AR
  rw [e1, e2, e3, e4, e5]
  refine ⟨q1, q2, q3, q4, q5, q6, q7, q8, q9, q10, q11, fun hk => ?_⟩
  obtain ⟨p1, p2, p3, p4, p5, p6⟩ := q12 hk
  exact ⟨p1, p2, p3, p4.congr (fun j hj => e6 j (by omega)), p5.congr (fun j hj => e7 j (by omega)), p6⟩
/-- the pair of new arguments -/
theorem R5.push {s : zS} {n : Nat} (h : R5 s n) (hn : n < 24) {k : Int} {v w : Int64} {z : Int} {t : List Int} {s2 : zS}
    (a1 : s2.1 9 = upd (s.1 9) n (zi k)) (a2 : s2.1 29 = upd (s.1 29) n (zi k)) (a3 : s2.2.1 10 = vp_updL (s.2.1 10) n v) (a4 : s2.2.1 31 = vp_updL (s.2.1 31) n w) (a5 : s2.1 30 = upd (s.1 30) n (zi z))
    (a6 : ∀ i j, i < n → j < 200 → s2.1 11 (200 * i + j) = s.1 11 (200 * i + j)) (a7 : ∀ i j, i < n → j < 200 → s2.1 28 (200 * i + j) = s.1 28 (200 * i + j))
    (a8 : s2.1 8 3 = zi (n + 1)) (a9 : s2.1 24 13 = zi (n + 1)) (new : AR s2 n k t) : R5 s2 (n + 1) := by
  refine ⟨a8, a9, hn, fun i hi => ?_⟩
  by_cases hin : i < n
  · obtain ⟨k', t', hA⟩ := h.2.2.2 i hin
    refine ⟨k', t', hA.of ?_ ?_ ?_ ?_ ?_ (fun j hj => a6 i j hin hj) (fun j hj => a7 i j hin hj)⟩
    · rw [a1, upd_lt hin]
    · rw [a2, upd_lt hin]
    · rw [a3, updL_ne (by omega)]
    · rw [a4, updL_ne (by omega)]
    · rw [a5, upd_lt hin]
  · have : i = n := by omega
    subst this
    exact ⟨k, t, new⟩
theorem bm256 (v : Int) : -128 ≤ v.bmod 256 ∧ v.bmod 256 < 128 := ⟨Int.le_bmod (x := v) (m := 256) (by decide), Int.bmod_lt (x := v) (m := 256) (by decide)⟩
theorem bm64k (v : Int) : -32768 ≤ v.bmod 65536 ∧ v.bmod 65536 < 32768 := ⟨Int.le_bmod (x := v) (m := 65536) (by decide), Int.bmod_lt (x := v) (m := 65536) (by decide)⟩
theorem bm4g (v : Int) : -2147483648 ≤ v.bmod 4294967296 ∧ v.bmod 4294967296 < 2147483648 := ⟨Int.le_bmod (x := v) (m := 4294967296) (by decide), Int.bmod_lt (x := v) (m := 4294967296) (by decide)⟩
/-- what the class keeps of a whole argument -/
def nar (k v : Int) : Int := if k = 0 then 0 else if k = 3 then v.bmod 256 else if k = 4 then v.bmod 65536 else if k = 5 then v.bmod 4294967296 else v
theorem r25_eq {k v : Int} (h1 : 0 ≤ k) (h2 : k ≤ 6) (s : zS) : r25 (zi k) (zl v) s = zl (nar k v) := by
  have b1 := bm256 v
  have b2 := bm64k v
  have b3 := bm4g v
  have q : k = 0 ∨ k = 1 ∨ k = 2 ∨ k = 3 ∨ k = 4 ∨ k = 5 ∨ k = 6 := by omega
  unfold r25
  rw [zL2I_zl, zI2B_zi, zI2S_zi, zI2L_zi (a := v.bmod 256) (by omega) (by omega), zI2L_zi (a := v.bmod 65536) (by omega) (by omega), zi_mod v, zI2L_zi (a := v.bmod 4294967296) (by omega) (by omega)]
  rcases q with rfl | rfl | rfl | rfl | rfl | rfl | rfl <;> rfl
/-- the reference's -/
def narM (k v : Int) : Int := if k = 1 then (if v = 0 then 0 else 1) else if k = 3 then v.bmod 256 else if k = 4 then v.bmod 65536 else if k = 5 then v.bmod 4294967296 else v
theorem f220_ok {k v : Int} {s : zS} {n : Nat} (h1 : 0 ≤ k) (h2 : k ≤ 6) (h3 : -9223372036854775808 ≤ v) (h4 : v < 9223372036854775808) (h5 : k = 2 → 0 ≤ v ∧ v ≤ 1114111) (hn : n < 24) (h : s.1 24 13 = zi n) : f220 (zi k) (zl v) s = some (zi (n + 1), aM (setI s 24 9 (zi 0)) n k (zl (narM k v)) 0) := by
  have b1 := bm256 v
  have b2 := bm64k v
  have b3 := bm4g v
  have hf : ∀ w, f220_113 (zi k) w (setI s 24 9 (zi 0)) = some (zi (n + 1), aM (setI s 24 9 (zi 0)) n k w 0) := by
    intro w
    unfold f220_113
    rw [f219_eq hn (show (setI s 24 9 (zi 0)).1 24 13 = zi n from h) k w 0]
    rfl
  have e0 : f220 (zi k) (zl v) s = f220_48 (zi k) (zl v) (zi 0) s := by
    have e34 : f220_34 (zi k) (zl v) s = f220_48 (zi k) (zl v) (zi 0) s := by
      unfold f220_34
      rw [h, if_pos (zne (by omega))]
    unfold f220
    rw [if_neg (znlt (by omega)), if_neg (zngt (by omega))]
    by_cases h2' : k = 2
    · subst h2'
      have := h5 rfl
      rw [if_neg (not_not_intro rfl), if_neg (zlnlt (by omega)), if_pos (zlle (by omega)), e34]
    · rw [if_pos (zne (by omega)), e34]
  rw [e0]
  unfold f220_48
  rw [if_pos (zle (by omega))]
  have e1 : ∀ w, f220_81 (zi k) (zl v) w (setI s 24 9 (zi 0)) = some (zi (n + 1), aM (setI s 24 9 (zi 0)) n k (if k = 3 then zl (v.bmod 256) else if k = 4 then zl (v.bmod 65536) else if k = 5 then zl (v.bmod 4294967296) else w) 0) := by
    intro w
    unfold f220_81 f220_92 f220_103
    rw [zL2I_zl, zI2B_zi, zI2S_zi, zI2L_zi (a := v.bmod 256) (by omega) (by omega), zI2L_zi (a := v.bmod 65536) (by omega) (by omega), zi_mod v, zI2L_zi (a := v.bmod 4294967296) (by omega) (by omega)]
    by_cases k3 : k = 3
    · subst k3
      rw [if_neg (not_not_intro rfl), if_pos (zne (by omega)), if_pos (zne (by omega)), hf]
      rfl
    · rw [if_pos (zne (by omega)), if_neg k3]
      by_cases k4 : k = 4
      · subst k4
        rw [if_neg (not_not_intro rfl), if_pos (zne (by omega)), hf]
        rfl
      · rw [if_pos (zne (by omega)), if_neg k4]
        by_cases k5 : k = 5
        · subst k5
          rw [if_neg (not_not_intro rfl), hf]
          rfl
        · rw [if_pos (zne (by omega)), if_neg k5, hf]
  by_cases k1 : k = 1
  · subst k1
    rw [if_neg (not_not_intro rfl)]
    by_cases v0 : v = 0
    · subst v0
      rw [if_neg (not_not_intro rfl), e1]
      rfl
    · rw [if_pos (zlne (by omega)), e1]
      unfold narM
      rw [if_pos rfl, if_neg v0]
      rfl
  · rw [if_pos (zne (by omega)), e1]
    unfold narM
    rw [if_neg k1]
    congr 3
    split
    · rfl
    · split
      · rfl
      · split <;> rfl
theorem f4_ok {k v : Int} {s : zS} {n : Nat} (h1 : 0 ≤ k) (h2 : k ≤ 6) (h3 : -9223372036854775808 ≤ v) (h4 : v < 9223372036854775808) (h5 : k = 2 → 0 ≤ v ∧ v ≤ 1114111) (hn : n < 24) (h : s.1 8 3 = zi n) : f4 (zi k) (zl v) s = some (.inl (zi (n + 1)), aC s n k (zl (nar k v))) := by
  have e42 : f4_42 (zi k) (zl v) s = some (.inl (zi (n + 1)), aC s n k (zl (nar k v))) := by
    unfold f4_42
    rw [show r29 s = zi 0 by unfold r29; rw [h, if_pos (zlt (by omega))], if_pos rfl, r25_eq h1 h2, f32_eq hn h]
    rfl
  unfold f4
  rw [if_neg (znlt (by omega)), if_pos (zle (by omega))]
  by_cases h2' : k = 2
  · subst h2'
    have := h5 rfl
    have e24 : r24 (zl v) s = zi 1 := by
      unfold r24
      rw [if_neg (zlnlt (by omega)), if_neg (zlngt (by omega))]
    rw [if_neg (not_not_intro rfl), e24, if_pos (zne (by omega)), e42]
  · rw [if_pos (zne (by omega)), e42]
theorem op_whole {P : List Int → Prop} {s : zS} (h : Inv P s) (he : s.2.2 < 600000) (x1 : Int32) (x2 : Int64) : opOK P s (f250 x1 x2) (f220 x1 x2) := by
  obtain ⟨k, hk1, hk2, rfl⟩ := zi_of x1
  obtain ⟨v, hv1, hv2, rfl⟩ := zl_of x2
  obtain ⟨h1, h2, h3, h4, ⟨n, h5⟩, h6⟩ := h
  by_cases hb : 0 ≤ k ∧ k ≤ 6 ∧ (k = 2 → 0 ≤ v ∧ v ≤ 1114111)
  · obtain ⟨b1, b2, b3⟩ := hb
    by_cases hn : n < 24
    · refine ⟨zi 0, setK (aC s n k (zl (nar k v))) 41 0 (zI2L (zi (n + 1))), zi (n + 1), aM (setI (setK (aC s n k (zl (nar k v))) 41 0 (zI2L (zi (n + 1)))) 24 9 (zi 0)) n k (zl (narM k v)) 0, ?_, f220_ok b1 b2 hv1 hv2 b3 hn h5.2.1, rfl, fun _ => rfl, ⟨h1, h2, h3, h4, ⟨n + 1, ?_⟩, h6⟩, Nat.le_succ _⟩
      · unfold f250
        rw [f4_ok b1 b2 hv1 hv2 b3 hn h5.1, zbT_l, if_pos ix01, z00]
      · refine h5.push hn (k := k) (v := zl (nar k v)) (w := zl (narM k v)) (z := 0) (t := []) rfl rfl rfl rfl rfl (fun _ _ _ _ => rfl) (fun _ _ _ _ => rfl) rfl rfl ?_
        have c1 := bm256 v
        have c2 := bm64k v
        have c3 := bm4g v
        have e9 : ∀ (s2 : zS), s2.2.1 10 n = zl (nar k v) → s2.2.1 31 n = zl (narM k v) → s2.1 9 n = zi k → s2.1 29 n = zi k → AR s2 n k [] := by
          intro s2 e1 e2 e3 e4
          refine ⟨b1, by omega, e3, e4, ?_, ?_, ?_, ?_, ?_, ?_, fun _ => by omega, fun _ => by omega⟩
          · intro hk
            subst hk
            rw [e1, e2]
            show zl v = zl 0 ↔ zl (if v = 0 then 0 else 1) = zl 0
            by_cases v0 : v = 0
            · subst v0
              exact ⟨fun _ => rfl, fun _ => rfl⟩
            · rw [if_neg v0]
              exact ⟨fun q => absurd q (zlne (by omega)), fun q => absurd q (zlne (by omega))⟩
          · intro hk
            rw [e1, e2]
            unfold nar narM
            rw [if_neg (show ¬ k = 0 by omega), if_neg (show ¬ k = 1 by omega)]
          · intro hk
            rcases hk with rfl | rfl
            · rw [e1]
              show 0 ≤ (zl 0).toInt ∧ (zl 0).toInt ≤ 1114111
              decide
            · have := b3 rfl
              rw [e1, zl_toInt (show -9223372036854775808 ≤ nar 2 v from hv1) hv2]
              exact this
          · intro hk
            subst hk
            rw [e1]
            show -128 ≤ (zl (v.bmod 256)).toInt ∧ (zl (v.bmod 256)).toInt ≤ 127
            rw [zl_toInt (by omega) (by omega)]
            omega
          · intro hk
            subst hk
            rw [e1]
            show -32768 ≤ (zl (v.bmod 65536)).toInt ∧ (zl (v.bmod 65536)).toInt ≤ 32767
            rw [zl_toInt (by omega) (by omega)]
            omega
          · intro hk
            subst hk
            rw [e1]
            show -2147483648 ≤ (zl (v.bmod 4294967296)).toInt ∧ (zl (v.bmod 4294967296)).toInt ≤ 2147483647
            rw [zl_toInt (by omega) (by omega)]
            omega
        exact e9 _ (updL_eq _ _ _) (updL_eq _ _ _) (upd_eq _ _ _) (upd_eq _ _ _)
    · have hn' : n = 24 := by have := h5.2.2.1; omega
      subst hn'
      refine ⟨zi 2, thr s, zi 0, setI (thr s) 24 9 (zi 2), ?_, ?_, rfl, fun q => absurd q (zne (by omega)), ⟨h1, h2, h3, h4, ⟨24, h5⟩, h6⟩, Nat.le_refl _⟩
      · have e42 : f4_42 (zi k) (zl v) s = some (.inr 2, thr s) := by
          unfold f4_42
          rw [show r29 s = zi 1 by unfold r29; rw [h5.1, if_neg (znlt (by omega))], if_neg (zne (by omega)), if_pos he]
        have e4 : f4 (zi k) (zl v) s = some (.inr 2, thr s) := by
          unfold f4
          rw [if_neg (znlt (by omega)), if_pos (zle (by omega))]
          by_cases h2' : k = 2
          · subst h2'
            have := b3 rfl
            have e24 : r24 (zl v) s = zi 1 := by
              unfold r24
              rw [if_neg (zlnlt (by omega)), if_neg (zlngt (by omega))]
            rw [if_neg (not_not_intro rfl), e24, if_pos (zne (by omega)), e42]
          · rw [if_pos (zne (by omega)), e42]
        unfold f250
        rw [e4, zbT_r]
        rfl
      · have e48 : f220_48 (zi k) (zl v) (zi 2) (thr s) = some (zi 0, setI (thr s) 24 9 (zi 2)) := by
          unfold f220_48
          rw [if_neg (znle (by omega))]
        have e34 : f220_34 (zi k) (zl v) (thr s) = some (zi 0, setI (thr s) 24 9 (zi 2)) := by
          unfold f220_34
          rw [show (thr s).1 24 13 = zi 24 from h5.2.1, if_neg (not_not_intro rfl), e48]
        unfold f220
        rw [if_neg (znlt (by omega)), if_neg (zngt (by omega))]
        by_cases h2' : k = 2
        · subst h2'
          have := b3 rfl
          rw [if_neg (not_not_intro rfl), if_neg (zlnlt (by omega)), if_pos (zlle (by omega)), e34]
        · rw [if_pos (zne (by omega)), e34]
  · refine ⟨zi 1, thr s, zi 0, setI (thr s) 24 9 (zi 1), ?_, ?_, rfl, fun q => absurd q (zne (by omega)), ⟨h1, h2, h3, h4, ⟨n, h5⟩, h6⟩, Nat.le_refl _⟩
    · have e10 : f4_10 s = some (.inr 0, thr s) := if_pos he
      have e4 : f4 (zi k) (zl v) s = some (.inr 0, thr s) := by
        unfold f4
        by_cases q1 : k < 0
        · rw [if_pos (zlt (by omega)), e10]
        · rw [if_neg (znlt (by omega))]
          by_cases q2 : k ≤ 6
          · rw [if_pos (zle (by omega))]
            have hk : k = 2 := by omega
            subst hk
            have e24 : r24 (zl v) s = zi 0 := by
              unfold r24
              by_cases q3 : v < 0
              · rw [if_pos (zllt (by omega))]
              · rw [if_neg (zlnlt (by omega)), if_pos (zlgt (by omega))]
            rw [if_neg (not_not_intro rfl), e24, if_neg (not_not_intro rfl), if_pos he]
          · rw [if_neg (znle (by omega)), e10]
      unfold f250
      rw [e4, zbT_r]
      rfl
    · have e48 : f220_48 (zi k) (zl v) (zi 1) (thr s) = some (zi 0, setI (thr s) 24 9 (zi 1)) := by
        unfold f220_48
        rw [if_neg (znle (by omega))]
      unfold f220
      by_cases q1 : k < 0
      · rw [if_pos (zlt (by omega)), e48]
      · rw [if_neg (znlt (by omega))]
        by_cases q2 : k ≤ 6
        · rw [if_neg (zngt (by omega))]
          have hk : k = 2 := by omega
          subst hk
          rw [if_neg (not_not_intro rfl)]
          by_cases q3 : v < 0
          · rw [if_pos (zllt (by omega)), e48]
          · rw [if_neg (zlnlt (by omega)), if_neg (zlnle (by omega)), e48]
        · rw [if_pos (zgt (by omega)), e48]
theorem op_real {P : List Int → Prop} {s : zS} (h : Inv P s) (he : s.2.2 < 600000) (x1 : Int64) {x3 : Int32} (hx : x3 = zi 0 ∨ x3 = zi 1) : opOK P s (f251 x1 x3) (f221 x1 x3) := by
  obtain ⟨h1, h2, h3, h4, ⟨n, h5⟩, h6⟩ := h
  have hb : ∃ b : Int, (b = 0 ∨ b = 1) ∧ x3 = zi b := by
    rcases hx with hx | hx
    · exact ⟨0, .inl rfl, hx⟩
    · exact ⟨1, .inr rfl, hx⟩
  obtain ⟨b, hb, rfl⟩ := hb
  by_cases hn : n < 24
  · refine ⟨zi 0, setK (aC s n (7 + b) x1) 41 0 (zI2L (zi (n + 1))), zi (n + 1), aM (setI (setK (aC s n (7 + b) x1) 41 0 (zI2L (zi (n + 1)))) 24 9 (zi 0)) n (7 + b) (if b = 0 then x1 else zI2L (zL2I x1)) 0, ?_, ?_, rfl, fun _ => rfl, ⟨h1, h2, h3, h4, ⟨n + 1, ?_⟩, h6⟩, Nat.le_succ _⟩
    · have e5 : f5 x1 (zi b) s = some (.inl (zi (n + 1)), aC s n (7 + b) x1) := by
        unfold f5 f5_35
        rw [show r29 s = zi 0 by unfold r29; rw [h5.1, if_pos (zlt (by omega))], if_pos rfl]
        rcases hb with rfl | rfl
        · rw [if_pos rfl, f32_eq hn h5.1 7]
          rfl
        · rw [if_neg (zne (by omega)), f32_eq hn h5.1 8]
          rfl
      unfold f251
      rw [e5, zbT_l, if_pos ix01, z00]
    · have h13 : ∀ v : Int64, (setI (setK (aC s n (7 + b) x1) 41 0 v) 24 9 (zi 0)).1 24 13 = zi n := fun _ => h5.2.1
      unfold f221 f221_15 f221_39 f221_50
      rw [show (setK (aC s n (7 + b) x1) 41 0 (zI2L (zi (n + 1)))).1 24 13 = zi n from h5.2.1, if_pos (zne (by omega)), if_pos (zle (by omega))]
      rcases hb with rfl | rfl
      · rw [if_pos rfl, if_pos rfl, f219_eq hn (h13 _) 7 x1 0]
        rfl
      · rw [if_neg (zne (by omega)), if_neg (zne (by omega)), f219_eq hn (h13 _) 8 (zI2L (zL2I x1)) 0]
        rfl
    · refine h5.push hn (k := 7 + b) (v := x1) (w := if b = 0 then x1 else zI2L (zL2I x1)) (z := 0) (t := []) rfl rfl rfl rfl rfl (fun _ _ _ _ => rfl) (fun _ _ _ _ => rfl) rfl rfl ?_
      have e9 : ∀ (s2 : zS), s2.2.1 10 n = x1 → s2.2.1 31 n = (if b = 0 then x1 else zI2L (zL2I x1)) → s2.1 9 n = zi (7 + b) → s2.1 29 n = zi (7 + b) → AR s2 n (7 + b) [] := by
        intro s2 e1 e2 e3 e4
        refine ⟨by omega, by omega, e3, e4, fun _ => by omega, fun _ => ?_, fun _ => by omega, fun _ => by omega, fun _ => by omega, fun _ => by omega, fun _ => ?_, fun _ => by omega⟩
        · rw [e1, e2, if_pos (by omega)]
        · rw [e1, e2, if_neg (by omega)]
      exact e9 _ (updL_eq _ _ _) (updL_eq _ _ _) (upd_eq _ _ _) (upd_eq _ _ _)
  · have hn' : n = 24 := by have := h5.2.2.1; omega
    subst hn'
    refine ⟨zi 1, thr s, zi 0, setI (thr s) 24 9 (zi 1), ?_, ?_, rfl, fun q => absurd q (zne (by omega)), ⟨h1, h2, h3, h4, ⟨24, h5⟩, h6⟩, Nat.le_refl _⟩
    · have e5 : f5 x1 (zi b) s = some (.inr 2, thr s) := by
        unfold f5
        rw [show r29 s = zi 1 by unfold r29; rw [h5.1, if_neg (znlt (by omega))], if_neg (zne (by omega)), if_pos he]
      unfold f251
      rw [e5, zbT_r]
      rfl
    · unfold f221 f221_15
      rw [show (thr s).1 24 13 = zi 24 from h5.2.1, if_neg (not_not_intro rfl), if_neg (znle (by omega))]
