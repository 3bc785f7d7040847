/-! run: given what each conversion writes -/
abbrev inL (v : Int) : Prop := -9223372036854775808 ≤ v ∧ v < 9223372036854775808
/-- an argument: its kind, its value with the class and with the reference, its text -/
def arel (k c m : Int) (t : List Int) : Prop := 0 ≤ k ∧ k ≤ 9 ∧ inL c ∧ inL m ∧ (k = 1 → (c = 0 ↔ m = 0)) ∧ (2 ≤ k ∧ k ≤ 7 → c = m) ∧ (k = 0 ∨ k = 2 → 0 ≤ c ∧ c ≤ 1114111) ∧ (k = 3 → -128 ≤ c ∧ c ≤ 127) ∧ (k = 4 → -32768 ≤ c ∧ c ≤ 32767) ∧ (k = 5 → -2147483648 ≤ c ∧ c ≤ 2147483647) ∧ (k = 8 → m = c.bmod 4294967296) ∧ (k = 9 → c = t.length ∧ t.length ≤ 200 ∧ asc t)
/-- a spec without a fault, with its argument -/
def vald (F : Int32) (W pr cv k c m : Int) (t : List Int) : Prop := arel k c m t ∧ isCv cv ∧ goes k cv ∧ flt F 0 W pr cv = 0 ∧ (W = -1 ∨ 1 ≤ W) ∧ W ≤ 2000 ∧ -1 ≤ pr ∧ pr ≤ 1100 ∧ (cv = 99 → 0 ≤ c ∧ c ≤ 1114111)
/-- a letter of a time -/
def suOK (cv su : Int) : Prop := cv = 116 → 0 ≤ su ∧ su ≤ 127 ∧ ¬ zidx 58 (zi su) < zi 0
def CH (s : zS) (F : Int32) (W pr cv su k c : Int) (a n : Nat) (t : List Int) : Prop := s.1 7 2 = F ∧ s.1 7 4 = zi (if W < 0 then 0 else W) ∧ s.1 7 5 = zi pr ∧ s.1 7 6 = zi cv ∧ (cv = 116 → s.1 7 7 = zi su) ∧ s.1 12 7 = zi (a + 1 : Nat) ∧ s.1 12 8 = zi k ∧ s.2.1 12 9 = zl c ∧ s.1 8 3 = zi n ∧ a < n ∧ n ≤ 24 ∧ (k = 9 → isL (fun j => s.1 11 (200 * a + j)) t)
def MH (s : zS) (F : Int32) (W pr cv su k m : Int) (a : Nat) (t : List Int) : Prop := s.1 24 15 = F ∧ s.1 24 16 = zi W ∧ s.1 24 17 = zi pr ∧ s.1 24 18 = zi cv ∧ (cv = 116 → s.1 24 19 = zi su) ∧ s.1 24 35 = zi a ∧ a < 24 ∧ s.1 29 a = zi k ∧ s.2.1 31 a = zl m ∧ (k = 9 → s.1 30 a = zi t.length ∧ isL (fun j => s.1 28 (200 * a + j)) t) ∧ R6 s
abbrev wA : List Nat := [13, 14, 15, 16, 17, 18, 19, 20]
abbrev yA : List Nat := [32, 33, 34, 35, 36, 37, 38, 39, 40]
abbrev yB : List Nat := [27, 28, 30, 31, 33]
/-- every conversion writes alike -/
def ConvOK : Prop := ∀ (F : Int32) (W pr cv su k c m : Int) (a n : Nat) (t : List Int), vald F W pr cv k c m t → suOK cv su → a < n → n ≤ 24 →
  ∃ l g z mm w, PR l g z mm w W F ∧ (∀ s, CH s F W pr cv su k c a n t → PC s [] 0 (-1) → ∃ s', f64 s = some s' ∧ PC s' l g z ∧ fr wA [] s s') ∧ (∀ s, MH s F W pr cv su k m a t → MD s [] 0 → ∃ s', f202 s = some s' ∧ MD s' mm w ∧ R6 s' ∧ fr yA yB s s')
/-! the arguments of a run, apart from any state -/
def argsOK (n : Nat) (K C M : Nat → Int) (T : Nat → List Int) : Prop := n ≤ 24 ∧ ∀ i, i < n → arel (K i) (C i) (M i) (T i)
def argC (s : zS) (n : Nat) (K C : Nat → Int) (T : Nat → List Int) : Prop := s.1 8 3 = zi n ∧ ∀ i, i < n → s.1 9 i = zi (K i) ∧ s.2.1 10 i = zl (C i) ∧ (K i = 9 → isL (fun j => s.1 11 (200 * i + j)) (T i))
def argM (s : zS) (n : Nat) (K M : Nat → Int) (T : Nat → List Int) : Prop := s.1 24 13 = zi n ∧ ∀ i, i < n → s.1 29 i = zi (K i) ∧ s.2.1 31 i = zl (M i) ∧ (K i = 9 → s.1 30 i = zi (T i).length ∧ isL (fun j => s.1 28 (200 * i + j)) (T i))
theorem R5.args {s : zS} {n : Nat} (h : R5 s n) : ∃ K C M T, argsOK n K C M T ∧ argC s n K C T ∧ argM s n K M T := by
  obtain ⟨h1, h2, h3, h4⟩ := h
  have hex : ∀ i, ∃ kt : Int × List Int, i < n → AR s i kt.1 kt.2 := by
    intro i
    by_cases q : i < n
    · obtain ⟨k, t, h⟩ := h4 i q
      exact ⟨(k, t), fun _ => h⟩
    · exact ⟨(0, []), fun h => absurd h q⟩
  refine ⟨fun i => (Classical.choose (hex i)).1, fun i => (s.2.1 10 i).toInt, fun i => (s.2.1 31 i).toInt, fun i => (Classical.choose (hex i)).2, ⟨h3, fun i hi => ?_⟩, ⟨h1, fun i hi => ?_⟩, ⟨h2, fun i hi => ?_⟩⟩
  · have h := Classical.choose_spec (hex i) hi
    dsimp only
    generalize (Classical.choose (hex i)).1 = k at h
    generalize (Classical.choose (hex i)).2 = t at h
    obtain ⟨q1, q2, q3, q4, q5, q6, q7, q8, q9, q10, q11, q12⟩ := h
    have hz : ∀ x : Int64, x = zl 0 ↔ x.toInt = 0 := fun x => ⟨fun e => by rw [e]; decide, fun e => by rw [zl_of_toInt e]⟩
    refine ⟨q1, q2, ⟨Int64.le_toInt _, Int64.toInt_lt _⟩, ⟨Int64.le_toInt _, Int64.toInt_lt _⟩, fun e => ?_, fun e => by rw [q6 e], q7, fun e => ?_, fun e => ?_, fun e => ?_, fun e => ?_, fun e => ?_⟩
    · rw [← hz, ← hz]
      exact q5 e
    · exact q8 e
    · exact q9 e
    · exact q10 e
    · rw [q11 e]
      have e1 : s.2.1 10 i = zl (s.2.1 10 i).toInt := zl_of_toInt rfl
      have hb := bm4g (s.2.1 10 i).toInt
      rw [e1, zL2I_zl, zi_mod, zI2L_zi (by omega) (by omega), zl_toInt (by omega) (by omega), ← e1]
    · obtain ⟨p1, p2, p3, p4, p5, p6⟩ := q12 e
      refine ⟨?_, p3, p6⟩
      rw [p1, zl_toInt (by omega) (by omega)]
  · have h := Classical.choose_spec (hex i) hi
    exact ⟨h.2.2.1, zl_of_toInt rfl, fun e => (h.2.2.2.2.2.2.2.2.2.2.2 e).2.2.2.1⟩
  · have h := Classical.choose_spec (hex i) hi
    refine ⟨h.2.2.2.1, zl_of_toInt rfl, fun e => ?_⟩
    obtain ⟨p1, p2, p3, p4, p5, p6⟩ := h.2.2.2.2.2.2.2.2.2.2.2 e
    exact ⟨p2, p5⟩
theorem fillAt_le {l : List Int} {z left : Int} (hz : z.toNat ≤ l.length) : fillAt l z left ≤ l.length := by
  unfold fillAt
  split
  · exact Nat.le_refl _
  · exact hz
theorem ft01 {p : Prop} [Decidable p] : 0 ≤ (if p then (0 : Int) else 11) ∧ (if p then (0 : Int) else 11) ≤ 11 := by
  by_cases h : p
  · rw [if_pos h]
    decide
  · rw [if_neg h]
    decide
theorem byt_one {b : Int} (h : -128 ≤ b ∧ b ≤ 127) : byt [b] := by
  intro v hv
  rcases List.mem_cons.mp hv with rfl | hv
  · exact h
  · cases hv
/-- both sides of one spec: a fault, or the same bytes more -/
def stC (s : zS) (g o : List Int) (ord lat : Int) (n : Nat) (K C : Nat → Int) (T : Nat → List Int) : Prop := LN 3 s g ∧ LN 5 s o ∧ s.1 12 6 = zi ord ∧ s.1 12 7 = zi lat ∧ argC s n K C T
def stM (s : zS) (g o : List Int) (ord lat : Int) (n : Nat) (K M : Nat → Int) (T : Nat → List Int) : Prop := MN 34 26 s g ∧ MN 6 27 s o ∧ s.1 24 36 = zi ord ∧ s.1 24 37 = zi (lat - 1) ∧ argM s n K M T ∧ R6 s
abbrev rA : List Nat := [5, 6, 7, 12, 13, 14, 15, 16, 17, 18, 19, 20]
abbrev rMA : List Nat := [27, 32, 33, 34, 35, 36, 37, 38, 39, 40]
abbrev rMB : List Nat := [6, 14, 15, 16, 17, 18, 19, 20, 22, 27, 28, 30, 31, 33, 35, 36, 37]
theorem argC.fr {A B : List Nat} {s s' : zS} {n : Nat} {K C : Nat → Int} {T : Nat → List Int} (h : fr A B s s') (hA : argC s n K C T) (c8 : A.contains 8 = false) (c9 : A.contains 9 = false) (c10 : A.contains 10 = false) (c11 : A.contains 11 = false) : argC s' n K C T := by
  refine ⟨by rw [h.f c8 (by decide)]; exact hA.1, fun i hi => ?_⟩
  obtain ⟨a1, a2, a3⟩ := hA.2 i hi
  refine ⟨by rw [h.f c9 (by decide)]; exact a1, by rw [h.l c10]; exact a2, fun e => ?_⟩
  rw [h.f c11 (by decide)]
  exact a3 e
theorem argM.fr {A B : List Nat} {s s' : zS} {n : Nat} {K M : Nat → Int} {T : Nat → List Int} (h : fr A B s s') (hA : argM s n K M T) (c24 : A.contains 24 = false) (b13 : B.contains 13 = false) (c28 : A.contains 28 = false) (c29 : A.contains 29 = false) (c30 : A.contains 30 = false) (c31 : A.contains 31 = false) : argM s' n K M T := by
  refine ⟨by rw [h.1 24 13 c24 (fun _ => b13)]; exact hA.1, fun i hi => ?_⟩
  obtain ⟨a1, a2, a3⟩ := hA.2 i hi
  refine ⟨by rw [h.f c29 (by decide)]; exact a1, by rw [h.l c31]; exact a2, fun e => ?_⟩
  rw [h.f c30 (by decide), h.f c28 (by decide)]
  exact a3 e
/-- the class's end of a press -/
theorem f60_70_eq {s : zS} {l o : List Int} {g z W cap : Int} {F : Int32} (hP : PC s l g z) (hL : LN 5 s o) (hb : byt l) (hl : l.length ≤ 1600) (hg : 0 ≤ g ∧ g ≤ l.length) (hz : z = -1 ∨ 0 ≤ z ∧ z ≤ l.length) (hW : W ≤ 2000) (h2 : s.1 7 2 = F) (h4 : s.1 7 4 = zi (if W < 0 then 0 else W)) (h8 : s.1 7 8 = zi cap) (hc : cap = 0 ∨ cap = 1) :
    ((o.length : Int) + l.length + ((if W < 0 then 0 else W) - (l.length - g)).toNat ≤ 6000 → ∃ s', f60_70 s = some (zi 0, s') ∧ LN 5 s' (o ++ fillL (upL cap l) (fillAt (upL cap l) z (if hasF F 1 then 1 else 0)) (if z < 0 then 32 else 48) ((if W < 0 then 0 else W) - (l.length - g)).toNat) ∧ fr [5, 6, 13, 14] [] s s') ∧
    (¬ (o.length : Int) + l.length + ((if W < 0 then 0 else W) - (l.length - g)).toNat ≤ 6000 → ∃ s', f60_70 s = some (zi 11, s') ∧ fr [5, 6, 13, 14] [] s s') := by
  have n01 : ¬ zi 1 = zi 0 := zne (by omega)
  have hW0 : 0 ≤ (if W < 0 then 0 else W) ∧ (if W < 0 then 0 else W) ≤ 2000 := by split <;> omega
  generalize (if W < 0 then 0 else W) = W' at *
  have e1 : ∃ s1, f60_70 s = f60_87 s1 ∧ PC s1 (upL cap l) g z ∧ fr [13, 14] [] s s1 := by
    unfold f60_70 f55
    have hbit : mBit (s.1 7 8) := by
      rw [h8]
      rcases hc with e | e <;> rw [e] <;> decide
    rw [if_pos hbit, zb1_mk, h8]
    rcases hc with rfl | rfl
    · rw [if_pos rfl]
      exact ⟨s, rfl, hP, fr.refl⟩
    · obtain ⟨s1, a1, a2, a3⟩ := hP.capitals hb hl
      rw [if_neg n01, a1, zb0_mk]
      exact ⟨s1, rfl, a2, a3⟩
  obtain ⟨s1, a1, a2, a3⟩ := e1
  have hL1 : LN 5 s1 o := hL.of (congrFun (a3.f rfl (by decide)) 1) (a3.f rfl (by decide))
  have hF1 : s1.1 7 2 = F := (congrFun (a3.f rfl (by decide)) 2).trans h2
  have hW1 : r52 s1 = zi W' := (congrFun (a3.f (a := 7) rfl (by decide)) 4).trans h4
  have hlu := upL_len cap l
  have e51 : r51 (zi 1) s1 = zi (if hasF F 1 then 1 else 0) := by
    by_cases q : hasF F 1
    · rw [r51_1 hF1 q, if_pos q]
    · rw [r51_0 hF1 q, if_neg q]
  obtain ⟨p1, p2⟩ := f85_eq (W := W') (left := if hasF F 1 then 1 else 0) a2 hL1 (upL_byt hb) (by omega) (by omega) (by omega) hW0.1 hW0.2 b01
  rw [hlu] at p1 p2
  rw [a1]
  unfold f60_87
  rw [hW1, e51]
  refine ⟨fun h => ?_, fun h => ?_⟩
  · obtain ⟨s2, b1, b2, b3⟩ := p1 h
    rw [b1, zb1_mk, if_neg n01]
    exact ⟨s2, rfl, b2, (a3.up rfl rfl).trans (b3.up rfl rfl)⟩
  · rw [p2 h, zb1_mk, if_pos rfl]
    exact ⟨s1, rfl, a3.up rfl rfl⟩
/-- the reference's end of a spec, from its make on -/
theorem m204_62 {s s1 : zS} {l o : List Int} {g z : Int} {mm : List Int} {w W cap : Int} {F : Int32} (hR : PR l g z mm w W F) (hf : f202 (setI (setI s 24 30 (zi 0)) 24 31 (zi 0)) = some s1) (hM : MD s1 mm w) (hL : MN 6 27 s1 o) (ho : o.length ≤ 6000) (h15 : s1.1 24 15 = F) (h16 : s1.1 24 16 = zi W) (h22 : s1.1 24 22 = zi cap) (hc : cap = 0 ∨ cap = 1) (hW : -1 ≤ W) (hW2 : W ≤ 2000) :
    ((o.length : Int) + l.length + ((if W < 0 then 0 else W) - (l.length - g)).toNat ≤ 6000 → ∃ s', f204_62 (zi 0) s = some (zi 0, s') ∧ MN 6 27 s' (o ++ fillL (upL cap l) (fillAt (upL cap l) z (if hasF F 1 then 1 else 0)) (if z < 0 then 32 else 48) ((if W < 0 then 0 else W) - (l.length - g)).toNat) ∧ fr [27] [6] s1 s') ∧
    (¬ (o.length : Int) + l.length + ((if W < 0 then 0 else W) - (l.length - g)).toNat ≤ 6000 → f204_62 (zi 0) s = some (zi 11, s1)) := by
  have hb := hR.m_byt hW2
  obtain ⟨e1, e2⟩ := hR.same hW cap o
  have e0 : f204_62 (zi 0) s = (if (((s1.1 24 6) + (s1.1 24 30)) + (r264 (zi 0) ((s1.1 24 16) - (s1.1 24 31)) s1)) ≤ (zi 6000) then if ¬ (r180 (s1.1 24 15) (zi 1) s1) = zi 0 then f204_161 zF (r264 (zi 0) ((s1.1 24 16) - (s1.1 24 31)) s1) (zi 0) s1 else f204_130 zF (r264 (zi 0) ((s1.1 24 16) - (s1.1 24 31)) s1) (zi 0) s1 else some (zi 11, s1)) := by
    unfold f204_62
    rw [if_pos (zle (by omega)), hf, zb0_mk]
  obtain ⟨p1, p2⟩ := m204_out hb.1 (by omega) hL hM ho h15 h16 h22 hc ⟨hb.2.2.1, by omega⟩ hW hW2 e0
  refine ⟨fun h => ?_, fun h => p2 (fun h' => h (e1.mpr h'))⟩
  rw [e2]
  exact p1 (e1.mp h)
theorem chF_mFt {k cv c m : Int} {t : List Int} (ha : arel k c m t) (hcv : isCv cv) : mFt k cv m = chF k cv c (goesB k cv) := by
  obtain ⟨q1, q2, q3, q4, q5, q6, q7, _⟩ := ha
  unfold mFt chF
  cases hg : goesB k cv with
  | false => rfl
  | true =>
    have hg' := (goesB_iff k cv).mp hg
    rw [if_pos rfl, if_pos rfl]
    by_cases c99 : cv = 99
    · by_cases k3 : 3 ≤ k ∧ k ≤ 5
      · have : c = m := q6 (by omega)
        subst this
        by_cases v : 0 ≤ c ∧ c ≤ 1114111
        · rw [if_neg (fun h => h.2.2.2 v), if_neg (fun h => h.2 v)]
        · rw [if_pos ⟨c99, k3.1, k3.2, v⟩, if_pos ⟨c99, v⟩]
      · have hk : k = 0 ∨ k = 2 := by
          by_cases k0 : k = 0
          · exact .inl k0
          · apply Classical.byContradiction
            intro hn
            exact ng_c c99 k0 (by omega) hg'
        have := q7 hk
        rw [if_neg (fun h => k3 ⟨h.2.1, h.2.2.1⟩), if_neg (fun h => h.2 this)]
    · rw [if_neg (fun h => c99 h.1), if_neg (fun h => c99 h.1)]
theorem and_sub {F M : Int32} {m : Int} (h : (F &&& M) = zi 0) (hm : (M &&& zi m) = zi m) : ¬ hasF F m := by
  intro hf
  apply hf
  rw [← hm, ← Int32.and_assoc, h]
  exact Int32.zero_and
/-- n takes no flags and no width -/
theorem flt_n {F : Int32} {W pr : Int} (h : flt F 0 W pr 110 = 0) (hW : -1 ≤ W) : W = -1 ∧ ¬ hasF F 1 := by
  unfold flt at h
  rw [if_neg (show ¬ (0 : Int) = 1 by decide)] at h
  by_cases q : (F &&& (r200 (zi 110) s0 ^^^ zi (-1))) = zi 0
  · rw [if_neg (not_not_intro q)] at h
    refine ⟨?_, and_sub q (by decide)⟩
    apply Classical.byContradiction
    intro hW1
    repeat' split at h
    all_goals omega
  · rw [if_pos q] at h
    cases h
theorem spC_su {g : List Int} (ha : asc g) {q : Nat} {cv cap su : Int} {nx : Nat} (h : spC g q = some (cv, cap, su, nx)) (h116 : cv = 116) : 0 ≤ su ∧ su ≤ 127 ∧ ¬ zidx 58 (zi su) < zi 0 := by
  have hr1 := atl_asc_range ha (q + 1 : Nat)
  unfold spC at h
  by_cases y1 : atl g q < 0 ∨ zidx 57 (zi (atl g q)) < zi 0
  · rw [if_pos y1] at h
    cases h
  · rw [if_neg y1] at h
    by_cases y2 : cvOf (atl g q) = 116
    · rw [if_pos y2] at h
      by_cases y3 : atl g (q + 1 : Nat) < 0 ∨ zidx 58 (zi (atl g (q + 1 : Nat))) < zi 0
      · rw [if_pos y3] at h
        cases h
      · rw [if_neg y3] at h
        injection h with h
        injection h with _ h
        injection h with _ h
        injection h with h _
        rw [← h]
        exact ⟨Int.not_lt.mp (fun z => y3 (.inl z)), hr1.2, fun z => y3 (.inr z)⟩
    · rw [if_neg y2] at h
      injection h with h
      injection h with h _
      omega
theorem press_both (hC : ConvOK) {g : List Int} (ha : asc g) (hg : g.length ≤ 400) {p : Nat} (hp : p < g.length) (h0 : spF g p = 0) {n : Nat} {K C M : Nat → Int} {T : Nat → List Int} (hA : argsOK n K C M T) {o : List Int} (hob : byt o) (ho : o.length ≤ 6000) {ord lat : Int} (hor : 0 ≤ ord ∧ ord ≤ 500) (hla : 0 ≤ lat ∧ lat ≤ 24) :
    ∃ (ft : Int) (o' : List Int) (ord' lat' : Int), 0 ≤ ft ∧ ft ≤ 11 ∧ byt o' ∧ (ft = 0 → o'.length ≤ 6000) ∧ 0 ≤ ord' ∧ ord' ≤ ord + 1 ∧ 0 ≤ lat' ∧ lat' ≤ 24 ∧
      (∀ s, stC s g o ord lat n K C T → ∃ s1 s2, f38 (zi p) s = some (zi 0, s1) ∧ f60 s1 = some (zi ft, s2) ∧ fr rA [] s s2 ∧ s2.1 7 0 = zi (spN g p) ∧ (ft = 0 → stC s2 g o' ord' lat' n K C T)) ∧
      (∀ s, stM s g o ord lat n K M T → ∃ s1 s2, f199 (zi p) s = some (zi 0, s1) ∧ f204 s1 = some (zi ft, s2) ∧ fr rMA rMB s s2 ∧ s2.1 24 20 = zi (spN g p) ∧ R6 s2 ∧ (ft = 0 → stM s2 g o' ord' lat' n K M T)) := by
  obtain ⟨w, f, t, q, W, pr, cv, cap, su, e1, e2, e3, e4⟩ := spF_zero ha hp h0
  obtain ⟨_, _, b3, b4, b5, b6, b7, b8, b9, b10, q4, b11⟩ := sp_some ha hp e1
  have n01 : ¬ zi 1 = zi 0 := zne (by omega)
  have hWr : -1 ≤ W := by omega
  have ht0 : t = 0 := by
    rcases b3 with e | e
    · exact e
    · subst e
      unfold flt at e2
      rw [if_pos rfl] at e2
      omega
  subst ht0
  -- what the class has behind its scan
  have clsS : ∀ s, stC s g o ord lat n K C T → ∃ s1, f38 (zi p) s = some (zi 0, s1) ∧ fr [7] [] s s1 ∧ stC s1 g o ord lat n K C T ∧ s1.1 7 0 = zi (spN g p) ∧ s1.1 7 1 = zi w ∧ s1.1 7 2 = f ∧ s1.1 7 4 = zi (if W < 0 then 0 else W) ∧ s1.1 7 5 = zi pr ∧ s1.1 7 6 = zi cv ∧ (cv = 116 → s1.1 7 7 = zi su) ∧ s1.1 7 8 = zi cap := by
    intro s hs
    obtain ⟨s1, a1, a2, a3⟩ := f38_eq hs.1 ha hp
    rw [h0] at a1
    obtain ⟨d1, d2, d3, d4, d5, d6, d7, d8⟩ := a3 _ _ _ _ _ _ _ _ _ _ e1
    refine ⟨s1, a1, a2, ⟨hs.1.of (congrFun (a2.f rfl (by decide)) 1) (a2.f rfl (by decide)), hs.2.1.of (congrFun (a2.f rfl (by decide)) 1) (a2.f rfl (by decide)), (congrFun (a2.f rfl (by decide)) 6).trans hs.2.2.1, (congrFun (a2.f rfl (by decide)) 7).trans hs.2.2.2.1, hs.2.2.2.2.fr a2 rfl rfl rfl rfl⟩, d1, d2, d3, d4, d5, d6, d7, d8⟩
  have modS : ∀ s, stM s g o ord lat n K M T → ∃ s1, f199 (zi p) s = some (zi 0, s1) ∧ fr [] [14, 15, 16, 17, 18, 19, 20, 22] s s1 ∧ stM s1 g o ord lat n K M T ∧ s1.1 24 20 = zi (spN g p) ∧ s1.1 24 14 = zi w ∧ s1.1 24 15 = f ∧ s1.1 24 16 = zi W ∧ s1.1 24 17 = zi pr ∧ s1.1 24 18 = zi cv ∧ s1.1 24 19 = zi su ∧ s1.1 24 22 = zi cap := by
    intro s hs
    obtain ⟨s1, a1, a2, a3⟩ := f199_eq hs.1 hg ha hp
    rw [h0] at a1
    obtain ⟨d1, d2, d3, d4, d5, d6, d7, d8⟩ := a3 _ _ _ _ _ _ _ _ _ _ e1
    refine ⟨s1, a1, a2, ⟨hs.1.of (a2.1 24 34 rfl (fun _ => rfl)) (a2.f rfl (by decide)), hs.2.1.of (a2.1 24 6 rfl (fun _ => rfl)) (a2.f rfl (by decide)), (a2.1 24 36 rfl (fun _ => rfl)).trans hs.2.2.1, (a2.1 24 37 rfl (fun _ => rfl)).trans hs.2.2.2.1, hs.2.2.2.2.1.fr a2 rfl rfl rfl rfl rfl rfl, hs.2.2.2.2.2.fr a2 rfl rfl rfl rfl rfl rfl⟩, d7, d1, d2, d3, d4, d5, d6, d8⟩
  -- the end of both, given what is written
  have finC : ∀ (l : List Int) (gg z : Int) (ord' lat' : Int) (s s3 : zS), byt l → l.length ≤ 1600 → 0 ≤ gg → gg ≤ l.length → (z = -1 ∨ 0 ≤ z ∧ z ≤ l.length) → PC s3 l gg z → fr (12 :: wA) [] s s3 → stC s g o ord lat n K C T → s.1 7 2 = f → s.1 7 4 = zi (if W < 0 then 0 else W) → s.1 7 8 = zi cap → s3.1 12 6 = zi ord' → s3.1 12 7 = zi lat' →
      ∃ s2, f60_70 s3 = some (zi (if (o.length : Int) + l.length + ((if W < 0 then 0 else W) - (l.length - gg)).toNat ≤ 6000 then 0 else 11), s2) ∧ fr [5, 6, 12, 13, 14, 15, 16, 17, 18, 19, 20] [] s s2 ∧ ((o.length : Int) + l.length + ((if W < 0 then 0 else W) - (l.length - gg)).toNat ≤ 6000 → stC s2 g (o ++ fillL (upL cap l) (fillAt (upL cap l) z (if hasF f 1 then 1 else 0)) (if z < 0 then 32 else 48) ((if W < 0 then 0 else W) - (l.length - gg)).toNat) ord' lat' n K C T) := by
    intro l gg z ord' lat' s s3 c1 c2 c3 c4 c5 c6 c7 c8 c9 c10 c11 c12 c13
    have hL3 : LN 5 s3 o := c8.2.1.of (congrFun (c7.f rfl (by decide)) 1) (c7.f rfl (by decide))
    have k7 : s3.1 7 = s.1 7 := c7.f rfl (by decide)
    obtain ⟨p1, p2⟩ := f60_70_eq (W := W) (cap := cap) (F := f) c6 hL3 c1 c2 ⟨c3, c4⟩ c5 b5 (by rw [k7]; exact c9) (by rw [k7]; exact c10) (by rw [k7]; exact c11) b10
    by_cases hfit : (o.length : Int) + l.length + ((if W < 0 then 0 else W) - (l.length - gg)).toNat ≤ 6000
    · obtain ⟨s2, r1, r2, r3⟩ := p1 hfit
      rw [if_pos hfit]
      have hfa : fr [5, 6, 12, 13, 14, 15, 16, 17, 18, 19, 20] [] s s2 := (c7.up rfl rfl).trans (r3.up rfl rfl)
      refine ⟨s2, r1, hfa, fun _ => ⟨c8.1.of (congrFun (hfa.f rfl (by decide)) 1) (hfa.f rfl (by decide)), r2, (congrFun (r3.f rfl (by decide)) 6).trans c12, (congrFun (r3.f rfl (by decide)) 7).trans c13, c8.2.2.2.2.fr hfa rfl rfl rfl rfl⟩⟩
    · obtain ⟨s2, r1, r3⟩ := p2 hfit
      rw [if_neg hfit]
      exact ⟨s2, r1, (c7.up rfl rfl).trans (r3.up rfl rfl), fun h => absurd h hfit⟩
  by_cases c37 : cv = 37 ∨ cv = 110
  · -- a % or a line's end
    have hcvn : ¬ isCv cv := by
      unfold isCv
      omega
    generalize hby : (if cv = 37 then (37 : Int) else 10) = by'
    have hby2 : -128 ≤ by' ∧ by' ≤ 127 := by
      rw [← hby]
      split <;> omega
    refine ⟨if (o.length : Int) + ([by'] : List Int).length + ((if W < 0 then 0 else W) - (([by'] : List Int).length - 0)).toNat ≤ 6000 then 0 else 11, o ++ fillL (upL cap [by']) (fillAt (upL cap [by']) (-1) (if hasF f 1 then 1 else 0)) (if (-1 : Int) < 0 then 32 else 48) ((if W < 0 then 0 else W) - (([by'] : List Int).length - 0)).toNat, ord, lat, ft01.1, ft01.2, ?_, ?_, hor.1, by omega, hla.1, hla.2, ?_, ?_⟩
    · refine hob.append ?_
      unfold fillL
      have hb1 : byt (upL cap [by']) := upL_byt (byt_one hby2)
      exact (hb1.take _).append ((byt_rep (by split <;> omega)).append (hb1.drop _))
    · intro hft
      have hfit : (o.length : Int) + ([by'] : List Int).length + ((if W < 0 then 0 else W) - (([by'] : List Int).length - 0)).toNat ≤ 6000 := by
        apply Classical.byContradiction
        intro hh
        rw [if_neg hh] at hft
        omega
      have hlu := upL_len cap [by']
      rw [List.length_append, fillL_len _ (fillAt_le (Nat.zero_le _)), hlu]
      omega
    · intro s hs
      obtain ⟨s1, x1, x2, x3, x4, x5, x6, x7, x8, x9, x10, x11⟩ := clsS s hs
      obtain ⟨sa, y1, y2, y3⟩ := PC.start s1
      obtain ⟨sb, z1, z2, z3⟩ := y2.add (by show 0 < 1600; omega) hby2.1 hby2.2
      have hfb : fr (12 :: wA) [] s1 sb := (y3.up rfl rfl).trans (z3.up rfl rfl)
      obtain ⟨s2, v1, v2, v3⟩ := finC [by'] 0 (-1) ord lat s1 sb (byt_one hby2) (by show 1 ≤ 1600; omega) (by omega) (by show (0 : Int) ≤ ((1 : Nat) : Int); omega) (.inl rfl) z2 hfb x3 x6 x7 x11 ((congrFun ((y3.up (A' := [13, 14]) (B' := []) rfl rfl).trans z3 |>.f (a := 12) rfl (by decide)) 6).trans x3.2.2.1) ((congrFun ((y3.up (A' := [13, 14]) (B' := []) rfl rfl).trans z3 |>.f (a := 12) rfl (by decide)) 7).trans x3.2.2.2.1)
      refine ⟨s1, s2, x1, ?_, (x2.up rfl rfl).trans (v2.up rfl rfl), (congrFun (v2.f (a := 7) rfl (by decide)) 0).trans x4, fun hft => v3 ?_⟩
      · unfold f60
        have c6 : r54 sa = zi cv := (congrFun (y3.f (a := 7) rfl (by decide)) 6).trans x9
        rw [y1, zb0_mk, c6]
        rcases c37 with e | e
        · subst e
          have : by' = 37 := by rw [← hby]; rfl
          subst this
          rw [if_neg (not_not_intro rfl), z1, zb0_mk]
          exact v1
        · subst e
          have : by' = 10 := by rw [← hby]; rfl
          subst this
          rw [if_pos (zne (by omega)), if_neg (not_not_intro rfl), z1, zb0_mk]
          exact v1
      · apply Classical.byContradiction
        intro hh
        rw [if_neg hh] at hft
        omega
    · intro s hs
      obtain ⟨s1, x1, x2, x3, x4, x5, x6, x7, x8, x9, x10, x11⟩ := modS s hs
      rcases c37 with e | e
      · subst e
        have hby37 : by' = 37 := by rw [← hby]; rfl
        subst hby37
        have hM0 : MD (setI (setI s1 24 30 (zi 0)) 24 31 (zi 0)) [] 0 := ⟨rfl, isL_nil, rfl⟩
        obtain ⟨s3, z1, z2, z3⟩ := hM0.add (by show 0 < 12000; omega) (b := 37) (by omega) (by omega)
        have e202 : f202 (setI (setI s1 24 30 (zi 0)) 24 31 (zi 0)) = some s3 := by
          have h18 : (setI (setI s1 24 30 (zi 0)) 24 31 (zi 0)).1 24 18 = zi 37 := x9
          unfold f202 f202_31 f202_49
          rw [h18, if_pos rfl, if_neg (znge (by omega)), if_neg (not_not_intro rfl), z1]
          rfl
        have hf3 : fr rMA rMB s1 s3 := ((fr.refl.sI (.inr ⟨rfl, rfl⟩)).sI (.inr ⟨rfl, rfl⟩)).trans (z3.up rfl rfl)
        have hR : PR [37] 0 (-1) [37] 1 W f := ⟨byt_one (by omega), (by show 1 ≤ 1600; omega), by omega, by show (0 : Int) ≤ ((1 : Nat) : Int); omega, .inl ⟨rfl, rfl, rfl⟩⟩
        have hL3 : MN 6 27 s3 o := x3.2.1.of ((z3.1 24 6 rfl (fun _ => rfl)).trans rfl) ((z3.f (a := 27) rfl (by decide)).trans rfl)
        obtain ⟨p1, p2⟩ := m204_62 (s := s1) hR e202 z2 hL3 ho ((z3.1 24 15 rfl (fun _ => rfl)).trans x6) ((z3.1 24 16 rfl (fun _ => rfl)).trans x7) ((z3.1 24 22 rfl (fun _ => rfl)).trans x11) b10 hWr b5
        have e204 : f204 s1 = f204_62 (zi 0) s1 := by
          unfold f204
          rw [x9, if_pos (zne (by omega)), if_neg (not_not_intro rfl)]
        by_cases hfit : (o.length : Int) + ([37] : List Int).length + ((if W < 0 then 0 else W) - (([37] : List Int).length - 0)).toNat ≤ 6000
        · obtain ⟨s2, r1, r2, r3⟩ := p1 hfit
          have hfa : fr rMA rMB s1 s2 := hf3.trans (r3.up rfl rfl)
          rw [if_pos hfit]
          refine ⟨s1, s2, x1, e204.trans r1, (x2.up rfl rfl).trans hfa, ?_, ?_, fun _ => ⟨x3.1.of (hfa.1 24 34 rfl (fun _ => rfl)) (hfa.f rfl (by decide)), r2, ?_, ?_, x3.2.2.2.2.1.fr hfa rfl rfl rfl rfl rfl rfl, ?_⟩⟩
          · exact (r3.1 24 20 rfl (fun _ => rfl)).trans ((z3.1 24 20 rfl (fun _ => rfl)).trans x4)
          · exact (R6.fr z3 (show R6 (setI (setI s1 24 30 (zi 0)) 24 31 (zi 0)) from x3.2.2.2.2.2) rfl rfl rfl rfl rfl rfl).fr r3 rfl rfl rfl rfl rfl rfl
          · exact (r3.1 24 36 rfl (fun _ => rfl)).trans ((z3.1 24 36 rfl (fun _ => rfl)).trans x3.2.2.1)
          · exact (r3.1 24 37 rfl (fun _ => rfl)).trans ((z3.1 24 37 rfl (fun _ => rfl)).trans x3.2.2.2.1)
          · exact (R6.fr z3 (show R6 (setI (setI s1 24 30 (zi 0)) 24 31 (zi 0)) from x3.2.2.2.2.2) rfl rfl rfl rfl rfl rfl).fr r3 rfl rfl rfl rfl rfl rfl
        · rw [if_neg hfit]
          refine ⟨s1, s3, x1, e204.trans (p2 hfit), (x2.up rfl rfl).trans hf3, (z3.1 24 20 rfl (fun _ => rfl)).trans x4, R6.fr z3 (show R6 (setI (setI s1 24 30 (zi 0)) 24 31 (zi 0)) from x3.2.2.2.2.2) rfl rfl rfl rfl rfl rfl, fun h => by omega⟩
      · subst e
        have hby10 : by' = 10 := by rw [← hby]; rfl
        subst hby10
        -- no flags, no width
        obtain ⟨hW1, hF1⟩ := flt_n e2 hWr
        subst hW1
        have hsz : ((if (-1 : Int) < 0 then (0 : Int) else -1) - ((([10] : List Int).length : Nat) - 0)).toNat = 0 := by decide
        rw [hsz]
        have hbytes : fillL (upL cap [10]) (fillAt (upL cap [10]) (-1) (if hasF f 1 then 1 else 0)) (if (-1 : Int) < 0 then 32 else 48) 0 = [10] := by
          rw [if_neg hF1]
          rcases b10 with e | e <;> subst e <;> rfl
        rw [hbytes]
        have e204 : f204 s1 = if o.length = 6000 then some (zi 11, s1) else some (zi 0, setI (setB s1 27 o.length (zi 10)) 24 6 (zi (o.length + 1 : Nat))) := by
          unfold f204
          rw [x9, if_neg (not_not_intro rfl), x3.2.1.1]
          by_cases h6 : o.length = 6000
          · rw [if_neg (not_not_intro (zeq (by omega))), if_pos h6]
          · rw [if_pos (zne (by omega)), if_neg h6, if_pos (zi_ix (by omega) (by omega) (by omega)), zi_toNat (by omega), zi_add]
            rfl
        by_cases h6 : o.length = 6000
        · rw [if_neg (show ¬ (o.length : Int) + (([10] : List Int).length : Nat) + ((0 : Nat) : Int) ≤ 6000 by show ¬ (o.length : Int) + ((1 : Nat) : Int) + ((0 : Nat) : Int) ≤ 6000; omega)]
          refine ⟨s1, s1, x1, by rw [e204, if_pos h6], x2.up rfl rfl, x4, x3.2.2.2.2.2, fun h => by omega⟩
        · rw [if_pos (show (o.length : Int) + (([10] : List Int).length : Nat) + ((0 : Nat) : Int) ≤ 6000 by show (o.length : Int) + ((1 : Nat) : Int) + ((0 : Nat) : Int) ≤ 6000; omega)]
          refine ⟨s1, setI (setB s1 27 o.length (zi 10)) 24 6 (zi (o.length + 1 : Nat)), x1, by rw [e204, if_neg h6], (x2.up rfl rfl).trans ((fr.refl.sB rfl).sI (.inr ⟨rfl, rfl⟩)), x4, x3.2.2.2.2.2, fun _ => ⟨x3.1, ⟨?_, x3.2.1.2.snoc rfl rfl⟩, x3.2.2.1, x3.2.2.2.1, x3.2.2.2.2.1, x3.2.2.2.2.2⟩⟩
          rw [List.length_append]
          rfl
  · have hcv : isCv cv := by
      rcases spC_cv ha b11 with h | h | h
      · exact h
      · exact absurd (.inl h) c37
      · exact absurd (.inr h) c37
    have hcvr := cv_range hcv
    by_cases hpk : 1 ≤ pickN w ord lat ∧ pickN w ord lat ≤ n
    · obtain ⟨i, hi⟩ : ∃ i : Nat, pickN w ord lat = i + 1 := ⟨(pickN w ord lat - 1).toNat, by omega⟩
      have hin : i < n := by omega
      have har := hA.2 i hin
      have hordN : 0 ≤ ordN w ord ∧ ordN w ord ≤ ord + 1 := by
        unfold ordN
        split <;> omega
      have hmf := chF_mFt har hcv
      by_cases hft0 : mFt (K i) cv (M i) = 0
      · -- it goes: both write
        have hg : goes (K i) cv := by
          apply Classical.byContradiction
          intro hn
          have : goesB (K i) cv = false := by
            cases hgb : goesB (K i) cv with
            | false => rfl
            | true => exact absurd ((goesB_iff _ _).mp hgb) hn
          unfold mFt at hft0
          rw [this] at hft0
          cases hft0
        have hv : vald f W pr cv (K i) (C i) (M i) (T i) := by
          refine ⟨har, hcv, hg, e2, b4, b5, b6, b7, fun c99 => ?_⟩
          rw [hmf] at hft0
          unfold chF at hft0
          rw [(goesB_iff _ _).mpr hg, if_pos rfl] at hft0
          apply Classical.byContradiction
          intro hh
          rw [if_pos ⟨c99, hh⟩] at hft0
          omega
        have hsu : suOK cv su := fun h116 => spC_su ha b11 h116
        obtain ⟨l, gg, z, mm, ww, hR, hCl, hMo⟩ := hC f W pr cv su (K i) (C i) (M i) i n (T i) hv hsu hin hA.1
        have hRl := hR
        obtain ⟨hR1, hR2, hR3, hR4, hR5⟩ := hRl
        have hz : z = -1 ∨ 0 ≤ z ∧ z ≤ l.length := by
          rcases hR5 with ⟨h, _⟩ | ⟨h1, h2, _⟩
          · exact .inl h
          · exact .inr ⟨h1, h2⟩
        refine ⟨if (o.length : Int) + l.length + ((if W < 0 then 0 else W) - (l.length - gg)).toNat ≤ 6000 then 0 else 11, o ++ fillL (upL cap l) (fillAt (upL cap l) z (if hasF f 1 then 1 else 0)) (if z < 0 then 32 else 48) ((if W < 0 then 0 else W) - (l.length - gg)).toNat, ordN w ord, (i + 1 : Nat), ft01.1, ft01.2, ?_, ?_, hordN.1, hordN.2, by omega, by have := hA.1; omega, ?_, ?_⟩
        · refine hob.append ?_
          unfold fillL
          have hb1 : byt (upL cap l) := upL_byt hR1
          exact (hb1.take _).append ((byt_rep (by split <;> omega)).append (hb1.drop _))
        · intro hft
          have hfit : (o.length : Int) + l.length + ((if W < 0 then 0 else W) - (l.length - gg)).toNat ≤ 6000 := by
            apply Classical.byContradiction
            intro hh
            rw [if_neg hh] at hft
            omega
          have hlu := upL_len cap l
          rw [List.length_append, fillL_len _ (fillAt_le (by omega)), hlu]
          omega
        · intro s hs
          obtain ⟨s1, x1, x2, x3, x4, x5, x6, x7, x8, x9, x10, x11⟩ := clsS s hs
          obtain ⟨sa, y1, y2, y3⟩ := PC.start s1
          have y7 : sa.1 7 = s1.1 7 := y3.f rfl (by decide)
          have y12 : sa.1 12 = s1.1 12 := y3.f rfl (by decide)
          have hargs := x3.2.2.2.2.fr y3 rfl rfl rfl rfl
          obtain ⟨_, ch⟩ := f61_eq (s := sa) (w := w) (ord := ord) (lat := lat) (cv := cv) (n := n) (by rw [y7]; exact x5) ⟨b8, b9⟩ (by rw [y12]; exact x3.2.2.1) (by rw [y12]; exact x3.2.2.2.1) (by omega) (by omega) (by rw [y7]; exact x9) hcv hargs.1 hA.1
          obtain ⟨sc, ft, d1, d2, d3, d4, d5, d6, d7⟩ := ch i (K i) (C i) hi hin (hargs.2 i hin).1 (hargs.2 i hin).2.1 har.2.2.1.1 har.2.2.1.2 har.1 har.2.1
          have hft : ft = 0 := by
            rcases d2 with ⟨_, d2⟩ | ⟨d2, _⟩
            · rw [d2, ← (goesB_iff _ _).mpr hg, ← hmf]
              exact hft0
            · exact absurd hg d2
          have z7 : sc.1 7 = s1.1 7 := (d7.f rfl (by decide)).trans y7
          have hargs2 := hargs.fr d7 rfl rfl rfl rfl
          have hCH : CH sc f W pr cv su (K i) (C i) i n (T i) := ⟨by rw [z7]; exact x6, by rw [z7]; exact x7, by rw [z7]; exact x8, by rw [z7]; exact x9, fun h => by rw [z7]; exact x10 h, d4, d5, d6, hargs2.1, hin, hA.1, (hargs2.2 i hin).2.2⟩
          obtain ⟨s3, v1, v2, v3⟩ := hCl sc hCH (y2.mv d7 rfl rfl)
          have hf3 : fr (12 :: wA) [] s1 s3 := ((y3.up rfl rfl).trans (d7.up rfl rfl)).trans (v3.up rfl rfl)
          obtain ⟨s2, u1, u2, u3⟩ := finC l gg z (ordN w ord) (i + 1 : Nat) s1 s3 hR1 hR2 hR3 hR4 hz v2 hf3 x3 x6 x7 x11 ((congrFun (v3.f (a := 12) rfl (by decide)) 6).trans d3) ((congrFun (v3.f (a := 12) rfl (by decide)) 7).trans d4)
          refine ⟨s1, s2, x1, ?_, (x2.up rfl rfl).trans (u2.up rfl rfl), (congrFun (u2.f (a := 7) rfl (by decide)) 0).trans x4, fun hft => u3 ?_⟩
          · unfold f60
            have c6 : r54 sa = zi cv := by show sa.1 7 6 = _; rw [y7]; exact x9
            rw [y1, zb0_mk, c6, if_pos (zne (by omega)), if_pos (zne (by omega)), d1, zb1_mk, hft, if_pos rfl, v1, zb0_mk]
            exact u1
          · apply Classical.byContradiction
            intro hh
            rw [if_neg hh] at hft
            omega
        · intro s hs
          obtain ⟨s1, x1, x2, x3, x4, x5, x6, x7, x8, x9, x10, x11⟩ := modS s hs
          obtain ⟨_, ch⟩ := f201_eq (s := s1) (w := w) (ord := ord) (lat := lat) (cv := cv) (n := n) x5 ⟨b8, b9⟩ x3.2.2.1 x3.2.2.2.1 (by omega) (by omega) x9 hcv x3.2.2.2.2.1.1 hA.1
          obtain ⟨sc, d1, d3, d4, d5, d7⟩ := ch i (K i) (M i) hi hin (x3.2.2.2.2.1.2 i hin).1 (x3.2.2.2.2.1.2 i hin).2.1 har.2.2.2.1.1 har.2.2.2.1.2 har.1 har.2.1
          rw [hft0] at d1
          have hargs := x3.2.2.2.2.1.fr d7 rfl rfl rfl rfl rfl rfl
          have hR6c : R6 sc := R6.fr d7 x3.2.2.2.2.2 rfl rfl rfl rfl rfl rfl
          have hfs : fr rMA rMB s1 (setI (setI sc 24 30 (zi 0)) 24 31 (zi 0)) := ((d7.up rfl rfl).sI (.inr ⟨rfl, rfl⟩)).sI (.inr ⟨rfl, rfl⟩)
          have hMH : MH (setI (setI sc 24 30 (zi 0)) 24 31 (zi 0)) f W pr cv su (K i) (M i) i (T i) := ⟨(d7.1 24 15 rfl (fun _ => rfl)).trans x6, (d7.1 24 16 rfl (fun _ => rfl)).trans x7, (d7.1 24 17 rfl (fun _ => rfl)).trans x8, (d7.1 24 18 rfl (fun _ => rfl)).trans x9, fun _ => (d7.1 24 19 rfl (fun _ => rfl)).trans x10, d5, by have := hA.1; omega, (hargs.2 i hin).1, (hargs.2 i hin).2.1, (hargs.2 i hin).2.2, hR6c⟩
          obtain ⟨s3, v1, v2, v4, v3⟩ := hMo _ hMH ⟨rfl, isL_nil, rfl⟩
          have hf3 : fr rMA rMB s1 s3 := hfs.trans (v3.up rfl rfl)
          have hL3 : MN 6 27 s3 o := x3.2.1.of ((v3.1 24 6 rfl (fun _ => rfl)).trans (d7.1 24 6 rfl (fun _ => rfl))) ((v3.f (a := 27) rfl (by decide)).trans (d7.f (a := 27) rfl (by decide)))
          obtain ⟨p1, p2⟩ := m204_62 (s := sc) hR v1 v2 hL3 ho ((v3.1 24 15 rfl (fun _ => rfl)).trans hMH.1) ((v3.1 24 16 rfl (fun _ => rfl)).trans hMH.2.1) ((v3.1 24 22 rfl (fun _ => rfl)).trans ((d7.1 24 22 rfl (fun _ => rfl)).trans x11)) b10 hWr b5
          have e204 : f204 s1 = f204_62 (zi 0) sc := by
            unfold f204
            rw [x9, if_pos (zne (by omega)), if_pos (zne (by omega)), d1, zb1_mk]
          have h20 : s3.1 24 20 = zi (spN g p) := (v3.1 24 20 rfl (fun _ => rfl)).trans ((d7.1 24 20 rfl (fun _ => rfl)).trans x4)
          by_cases hfit : (o.length : Int) + l.length + ((if W < 0 then 0 else W) - (l.length - gg)).toNat ≤ 6000
          · obtain ⟨s2, r1, r2, r3⟩ := p1 hfit
            have hfa : fr rMA rMB s1 s2 := hf3.trans (r3.up rfl rfl)
            rw [if_pos hfit]
            refine ⟨s1, s2, x1, e204.trans r1, (x2.up rfl rfl).trans hfa, (r3.1 24 20 rfl (fun _ => rfl)).trans h20, v4.fr r3 rfl rfl rfl rfl rfl rfl, fun _ => ⟨x3.1.of (hfa.1 24 34 rfl (fun _ => rfl)) (hfa.f rfl (by decide)), r2, ?_, ?_, x3.2.2.2.2.1.fr hfa rfl rfl rfl rfl rfl rfl, v4.fr r3 rfl rfl rfl rfl rfl rfl⟩⟩
            · exact (r3.1 24 36 rfl (fun _ => rfl)).trans ((v3.1 24 36 rfl (fun _ => rfl)).trans d3)
            · have e9 : ((i + 1 : Nat) : Int) - 1 = i := by omega
              rw [e9]
              exact (r3.1 24 37 rfl (fun _ => rfl)).trans ((v3.1 24 37 rfl (fun _ => rfl)).trans d4)
          · rw [if_neg hfit]
            exact ⟨s1, s3, x1, e204.trans (p2 hfit), (x2.up rfl rfl).trans hf3, h20, v4, fun h => by omega⟩
      · -- a fault of the argument
        have hftr : 9 ≤ mFt (K i) cv (M i) ∧ mFt (K i) cv (M i) ≤ 10 := by
          unfold mFt at hft0 ⊢
          repeat' split
          all_goals first | omega | (rename_i h1 h2; rw [if_pos h1, if_neg h2] at hft0; omega)
        refine ⟨mFt (K i) cv (M i), o, ord, lat, by omega, by omega, hob, fun _ => ho, hor.1, by omega, hla.1, hla.2, ?_, ?_⟩
        · intro s hs
          obtain ⟨s1, x1, x2, x3, x4, x5, x6, x7, x8, x9, x10, x11⟩ := clsS s hs
          obtain ⟨sa, y1, y2, y3⟩ := PC.start s1
          have y7 : sa.1 7 = s1.1 7 := y3.f rfl (by decide)
          have y12 : sa.1 12 = s1.1 12 := y3.f rfl (by decide)
          have hargs := x3.2.2.2.2.fr y3 rfl rfl rfl rfl
          obtain ⟨_, ch⟩ := f61_eq (s := sa) (w := w) (ord := ord) (lat := lat) (cv := cv) (n := n) (by rw [y7]; exact x5) ⟨b8, b9⟩ (by rw [y12]; exact x3.2.2.1) (by rw [y12]; exact x3.2.2.2.1) (by omega) (by omega) (by rw [y7]; exact x9) hcv hargs.1 hA.1
          obtain ⟨sc, ft, d1, d2, d3, d4, d5, d6, d7⟩ := ch i (K i) (C i) hi hin (hargs.2 i hin).1 (hargs.2 i hin).2.1 har.2.2.1.1 har.2.2.1.2 har.1 har.2.1
          have hft : ft = mFt (K i) cv (M i) := by
            rw [hmf]
            rcases d2 with ⟨h, d2⟩ | ⟨h, d2⟩
            · rw [(goesB_iff _ _).mpr h]
              exact d2
            · have : goesB (K i) cv = false := by
                cases hgb : goesB (K i) cv with
                | false => rfl
                | true => exact absurd ((goesB_iff _ _).mp hgb) h
              rw [this]
              exact d2
          have hf2 : fr rA [] s1 sc := (y3.up rfl rfl).trans (d7.up rfl rfl)
          refine ⟨s1, sc, x1, ?_, (x2.up rfl rfl).trans hf2, ?_, fun h => by omega⟩
          · unfold f60
            have c6 : r54 sa = zi cv := by show sa.1 7 6 = _; rw [y7]; exact x9
            rw [y1, zb0_mk, c6, if_pos (zne (by omega)), if_pos (zne (by omega)), d1, zb1_mk, hft, if_neg (zne (by omega))]
          · rw [d7.f (a := 7) rfl (by decide), y7]
            exact x4
        · intro s hs
          obtain ⟨s1, x1, x2, x3, x4, x5, x6, x7, x8, x9, x10, x11⟩ := modS s hs
          obtain ⟨_, ch⟩ := f201_eq (s := s1) (w := w) (ord := ord) (lat := lat) (cv := cv) (n := n) x5 ⟨b8, b9⟩ x3.2.2.1 x3.2.2.2.1 (by omega) (by omega) x9 hcv x3.2.2.2.2.1.1 hA.1
          obtain ⟨sc, d1, d3, d4, d5, d7⟩ := ch i (K i) (M i) hi hin (x3.2.2.2.2.1.2 i hin).1 (x3.2.2.2.2.1.2 i hin).2.1 har.2.2.2.1.1 har.2.2.2.1.2 har.1 har.2.1
          refine ⟨s1, sc, x1, ?_, (x2.up rfl rfl).trans (d7.up rfl rfl), (d7.1 24 20 rfl (fun _ => rfl)).trans x4, R6.fr d7 x3.2.2.2.2.2 rfl rfl rfl rfl rfl rfl, fun h => by omega⟩
          unfold f204
          rw [x9, if_pos (zne (by omega)), if_pos (zne (by omega)), d1, zb1_mk]
          unfold f204_62
          rw [if_neg (znle (by omega))]
    · -- no such argument
      refine ⟨8, o, ord, lat, by omega, by omega, hob, fun _ => ho, hor.1, by omega, hla.1, hla.2, ?_, ?_⟩
      · intro s hs
        obtain ⟨s1, x1, x2, x3, x4, x5, x6, x7, x8, x9, x10, x11⟩ := clsS s hs
        obtain ⟨sa, y1, y2, y3⟩ := PC.start s1
        have y7 : sa.1 7 = s1.1 7 := y3.f rfl (by decide)
        have y12 : sa.1 12 = s1.1 12 := y3.f rfl (by decide)
        have hargs := x3.2.2.2.2.fr y3 rfl rfl rfl rfl
        obtain ⟨ch, _⟩ := f61_eq (s := sa) (w := w) (ord := ord) (lat := lat) (cv := cv) (n := n) (by rw [y7]; exact x5) ⟨b8, b9⟩ (by rw [y12]; exact x3.2.2.1) (by rw [y12]; exact x3.2.2.2.1) (by omega) (by omega) (by rw [y7]; exact x9) hcv hargs.1 hA.1
        obtain ⟨sc, d1, d7⟩ := ch hpk
        have hf2 : fr rA [] s1 sc := (y3.up rfl rfl).trans (d7.up rfl rfl)
        refine ⟨s1, sc, x1, ?_, (x2.up rfl rfl).trans hf2, ?_, fun h => by omega⟩
        · unfold f60
          have c6 : r54 sa = zi cv := by show sa.1 7 6 = _; rw [y7]; exact x9
          rw [y1, zb0_mk, c6, if_pos (zne (by omega)), if_pos (zne (by omega)), d1, zb1_mk, if_neg (zne (by omega))]
        · rw [d7.f (a := 7) rfl (by decide), y7]
          exact x4
      · intro s hs
        obtain ⟨s1, x1, x2, x3, x4, x5, x6, x7, x8, x9, x10, x11⟩ := modS s hs
        obtain ⟨ch, _⟩ := f201_eq (s := s1) (w := w) (ord := ord) (lat := lat) (cv := cv) (n := n) x5 ⟨b8, b9⟩ x3.2.2.1 x3.2.2.2.1 (by omega) (by omega) x9 hcv x3.2.2.2.2.1.1 hA.1
        obtain ⟨sc, d1, d7⟩ := ch hpk
        refine ⟨s1, sc, x1, ?_, (x2.up rfl rfl).trans (d7.up rfl rfl), (d7.1 24 20 rfl (fun _ => rfl)).trans x4, R6.fr d7 x3.2.2.2.2.2 rfl rfl rfl rfl rfl rfl, fun h => by omega⟩
        unfold f204
        rw [x9, if_pos (zne (by omega)), if_pos (zne (by omega)), d1, zb1_mk]
        unfold f204_62
        rw [if_neg (znle (by omega))]
