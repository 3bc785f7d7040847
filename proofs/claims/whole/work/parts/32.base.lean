/-! evaluation, frames, bytes as lists -/
theorem zb1_mk {α β : Type} (a : α) (s : zS) (g : α → zS → Option β) : zb1 (some (a, s)) g = g a s := rfl
theorem zb0_mk {β : Type} (s : zS) (g : zS → Option β) : zb0 (some s) g = g s := rfl
theorem zbT_l {α β : Type} (a : α) (s : zS) (g : α → zS → Option β) (e : Nat → zS → Option β) : zbT (some (.inl a, s)) g e = g a s := rfl
theorem zbT_r {α β : Type} (n : Nat) (s : zS) (g : α → zS → Option β) (e : Nat → zS → Option β) : zbT (some (.inr n, s)) g e = e n s := rfl
theorem zeq {a b : Int} (h : a = b) : zi a = zi b := h ▸ rfl
theorem zleq {a b : Int} (h : a = b) : zl a = zl b := h ▸ rfl
theorem nbeq_t : ∀ a : Nat, Nat.beq a a = true
  | 0 => rfl
  | n + 1 => nbeq_t n
theorem nbeq_f {a b : Nat} (h : a ≠ b) : Nat.beq a b = false := by
  cases e : Nat.beq a b with
  | false => rfl
  | true => exact absurd (Nat.eq_of_beq_eq_true e) h
theorem gI_eq (s : zS) (a k : Nat) (v : Int32) : (setI s a k v).1 a k = v := by
  show (bif Nat.beq a a && Nat.beq k k then v else s.1 a k) = v
  rw [nbeq_t, nbeq_t]
  rfl
theorem gI_ne {s : zS} {a k a' k' : Nat} {v : Int32} (h : a' ≠ a ∨ k' ≠ k) : (setI s a k v).1 a' k' = s.1 a' k' := by
  show (bif Nat.beq a' a && Nat.beq k' k then v else s.1 a' k') = s.1 a' k'
  rcases h with h | h
  · rw [nbeq_f h]
    rfl
  · rw [nbeq_f h, Bool.and_false]
    rfl
theorem gI_fn {s : zS} {a k a' : Nat} {v : Int32} (h : a' ≠ a) : (setI s a k v).1 a' = s.1 a' := by
  funext k'
  exact gI_ne (.inl h)
theorem gB_eq (s : zS) (a i : Nat) (v : Int32) : (setB s a i v).1 a = upd (s.1 a) i v := by
  show (bif Nat.beq a a then upd (s.1 a) i v else s.1 a) = _
  rw [nbeq_t]
  rfl
theorem gB_fn {s : zS} {a i a' : Nat} {v : Int32} (h : a' ≠ a) : (setB s a i v).1 a' = s.1 a' := by
  show (bif Nat.beq a' a then upd (s.1 a) i v else s.1 a') = _
  rw [nbeq_f h]
  rfl
/-- what may change: the addresses of A, and of the model's own object the fields of B -/
def fr (A B : List Nat) (s s' : zS) : Prop := (∀ a k, A.contains a = false → (a = 24 → B.contains k = false) → s'.1 a k = s.1 a k) ∧ (∀ a k, A.contains a = false → s'.2.1 a k = s.2.1 a k) ∧ s'.2.2 = s.2.2
theorem fr.refl {A B : List Nat} {s : zS} : fr A B s s := ⟨fun _ _ _ _ => rfl, fun _ _ _ => rfl, rfl⟩
theorem fr.trans {A B : List Nat} {s s' s'' : zS} (h : fr A B s s') (g : fr A B s' s'') : fr A B s s'' :=
  ⟨fun a k ha hb => (g.1 a k ha hb).trans (h.1 a k ha hb), fun a k ha => (g.2.1 a k ha).trans (h.2.1 a k ha), g.2.2.trans h.2.2⟩
theorem contains_up {A A' : List Nat} (h : A.all (fun x => A'.contains x) = true) {a : Nat} (ha : A'.contains a = false) : A.contains a = false := by
  cases e : A.contains a with
  | false => rfl
  | true =>
    have h1 := List.all_eq_true.mp h a (List.contains_iff_mem.mp e)
    rw [ha] at h1
    cases h1
theorem fr.up {A B A' B' : List Nat} {s s' : zS} (h : fr A B s s') (hA : A.all (fun x => A'.contains x) = true) (hB : B.all (fun x => B'.contains x) = true) : fr A' B' s s' :=
  ⟨fun a k ha hb => h.1 a k (contains_up hA ha) (fun e => contains_up hB (hb e)), fun a k ha => h.2.1 a k (contains_up hA ha), h.2.2⟩
theorem fr.f {A B : List Nat} {s s' : zS} (h : fr A B s s') {a : Nat} (ha : A.contains a = false) (hb : a ≠ 24) : s'.1 a = s.1 a := by
  funext k
  exact h.1 a k ha (fun e => absurd e hb)
theorem fr.l {A B : List Nat} {s s' : zS} (h : fr A B s s') {a : Nat} (ha : A.contains a = false) : s'.2.1 a = s.2.1 a := by
  funext k
  exact h.2.1 a k ha
theorem fr.sI {A B : List Nat} {s s' : zS} (h : fr A B s s') {a k : Nat} {v : Int32} (hc : A.contains a = true ∨ (a = 24 ∧ B.contains k = true)) : fr A B s (setI s' a k v) := by
  refine ⟨fun a' k' ha hb => ?_, h.2.1, h.2.2⟩
  refine Eq.trans (gI_ne ?_) (h.1 a' k' ha hb)
  rcases hc with hc | ⟨hc, hk⟩
  · exact .inl (fun e => by rw [e, hc] at ha; cases ha)
  · by_cases e : a' = 24
    · exact .inr (fun e2 => by have := hb e; rw [e2, hk] at this; cases this)
    · exact .inl (fun e2 => e (e2.trans hc))
theorem fr.sB {A B : List Nat} {s s' : zS} (h : fr A B s s') {a i : Nat} {v : Int32} (hc : A.contains a = true) : fr A B s (setB s' a i v) := by
  refine ⟨fun a' k' ha hb => ?_, h.2.1, h.2.2⟩
  have e : a' ≠ a := fun e => by rw [e, hc] at ha; cases ha
  rw [gB_fn e]
  exact h.1 a' k' ha hb
theorem fr.sA {A B : List Nat} {s s' : zS} (h : fr A B s s') {a : Nat} {f : Nat → Int32} (hc : A.contains a = true) : fr A B s (setA s' a f) := by
  refine ⟨fun a' k' ha hb => ?_, h.2.1, h.2.2⟩
  have e : a' ≠ a := fun e => by rw [e, hc] at ha; cases ha
  show (bif Nat.beq a' a then f else s'.1 a') k' = _
  rw [nbeq_f e]
  exact h.1 a' k' ha hb
theorem fr.sJ {A B : List Nat} {s s' : zS} (h : fr A B s s') {a k : Nat} {v : Int64} (hc : A.contains a = true) : fr A B s (setJ s' a k v) := by
  refine ⟨h.1, fun a' k' ha => ?_, h.2.2⟩
  have e : a' ≠ a := fun e => by rw [e, hc] at ha; cases ha
  show (bif Nat.beq a' a && Nat.beq k' k then v else s'.2.1 a' k') = _
  rw [nbeq_f e]
  exact h.2.1 a' k' ha
theorem fr.sK {A B : List Nat} {s s' : zS} (h : fr A B s s') {a i : Nat} {v : Int64} (hc : A.contains a = true) : fr A B s (setK s' a i v) := by
  refine ⟨h.1, fun a' k' ha => ?_, h.2.2⟩
  have e : a' ≠ a := fun e => by rw [e, hc] at ha; cases ha
  show (bif Nat.beq a' a then vp_updL (s'.2.1 a) i v else s'.2.1 a') k' = _
  rw [nbeq_f e]
  exact h.2.1 a' k' ha
/-! bytes as lists -/
def isL (f : Nat → Int32) (l : List Int) : Prop := ∀ i v, l[i]? = some v → f i = zi v
def asc (l : List Int) : Prop := ∀ v, v ∈ l → 0 ≤ v ∧ v ≤ 127
def byt (l : List Int) : Prop := ∀ v, v ∈ l → -128 ≤ v ∧ v ≤ 127
theorem asc.byt {l : List Int} (h : asc l) : byt l := fun v hv => ⟨by have := h v hv; omega, (h v hv).2⟩
theorem isL_nil {f : Nat → Int32} : isL f [] := fun i v h => by simp at h
theorem isL.get {f : Nat → Int32} {l : List Int} (h : isL f l) {i : Nat} (hi : i < l.length) : f i = zi l[i] := h i _ (List.getElem?_eq_getElem hi)
theorem upd_eq (f : Nat → Int32) (i : Nat) (v : Int32) : upd f i v i = v := by simp [upd]
theorem upd_ne {f : Nat → Int32} {i j : Nat} {v : Int32} (h : j ≠ i) : upd f i v j = f j := by simp [upd, h]
theorem isL.snoc {f : Nat → Int32} {l : List Int} (h : isL f l) {n : Nat} (hn : n = l.length) {v : Int} {w : Int32} (hw : w = zi v) : isL (upd f n w) (l ++ [v]) := by
  subst hn hw
  intro i w hi
  by_cases h1 : i < l.length
  · rw [List.getElem?_append_left h1] at hi
    rw [upd_ne (by omega)]
    exact h i w hi
  · by_cases h2 : i = l.length
    · subst h2
      simp at hi
      subst hi
      exact upd_eq _ _ _
    · rw [List.getElem?_eq_none (by simp; omega)] at hi
      cases hi
theorem isL.take {f : Nat → Int32} {l : List Int} (h : isL f l) (n : Nat) : isL f (l.take n) := by
  intro i v hi
  rw [List.getElem?_take] at hi
  split at hi
  · exact h i v hi
  · cases hi
theorem isL.congr {f g : Nat → Int32} {l : List Int} (h : isL f l) (e : ∀ i, i < l.length → g i = f i) : isL g l := by
  intro i v hi
  have h1 : i < l.length := by
    rcases Nat.lt_or_ge i l.length with h1 | h1
    · exact h1
    · rw [List.getElem?_eq_none h1] at hi
      cases hi
  rw [e i h1]
  exact h i v hi
/-- the byte at i, 0 to 255, or -1 -/
def atl (l : List Int) (i : Int) : Int := if i < 0 then -1 else match l[i.toNat]? with
  | none => -1
  | some v => v % 256
theorem atl_neg {l : List Int} {i : Int} (h : i < 0) : atl l i = -1 := if_pos h
theorem atl_ge {l : List Int} {i : Int} (h : (l.length : Int) ≤ i) : atl l i = -1 := by
  unfold atl
  rw [if_neg (by omega), List.getElem?_eq_none (by omega)]
theorem atl_lt {l : List Int} {i : Nat} (h : i < l.length) : atl l i = l[i] % 256 := by
  unfold atl
  rw [if_neg (by omega), Int.toNat_natCast, List.getElem?_eq_getElem h]
theorem atl_range (l : List Int) (i : Int) : -1 ≤ atl l i ∧ atl l i < 256 := by
  unfold atl
  split
  · omega
  · split <;> omega
theorem atl_asc {l : List Int} (h : asc l) {i : Nat} (hi : i < l.length) : atl l i = l[i] := by
  have := h _ (List.getElem_mem hi)
  rw [atl_lt hi]
  omega
theorem atl_asc_range {l : List Int} (h : asc l) (i : Int) : -1 ≤ atl l i ∧ atl l i ≤ 127 := by
  unfold atl
  split
  · omega
  · split
    · omega
    · rename_i v hv
      have := h v (List.mem_of_getElem? hv)
      omega
theorem zLen_le (a : Nat) : zLen a ≤ 6000 := by
  unfold zLen
  cases Nat.beq a 1 <;> cases Nat.beq a 3 <;> decide
theorem zi_and255 (a : Int) : zi a &&& zi 255 = zi (a % 256) := zi_and (a := a) (k := 8) (by decide)
/-- a line of the class -/
def LN (aa : Nat) (s : zS) (l : List Int) : Prop := s.1 aa 1 = zi l.length ∧ isL (s.1 (aa + 1)) l ∧ l.length ≤ zLen aa
theorem LN.at {aa : Nat} {s : zS} {l : List Int} (h : LN aa s l) {i : Int} (h1 : -2147483648 ≤ i) (h2 : i < 2147483648) : f17 aa (zi i) s = some (zi (atl l i), s) := by
  have hz := zLen_le aa
  have hn := h.2.2
  unfold f17
  by_cases h0 : i < 0
  · rw [if_pos (zlt ⟨h1, h0, by omega⟩), atl_neg h0]
  · rw [if_neg (znlt ⟨by omega, by omega, h2⟩), h.1]
    by_cases h3 : i < l.length
    · rw [if_pos (zlt ⟨h1, h3, by omega⟩), if_pos (zi_ix (by omega) (by omega) h2), zi_nat (by omega) h2, h.2.1.get (show i.toNat < l.length by omega), zi_and255]
      have e := atl_lt (l := l) (show i.toNat < l.length by omega)
      rw [Int.toNat_of_nonneg (by omega)] at e
      rw [e]
    · rw [if_neg (znlt ⟨by omega, by omega, h2⟩), atl_ge (by omega)]
theorem LN.add {aa : Nat} {s : zS} {l : List Int} (h : LN aa s l) (hn : l.length < zLen aa) (b : Int) : ∃ s', f19 aa (zi b) s = some s' ∧ LN aa s' (l ++ [b.bmod 256]) ∧ fr [aa, aa + 1] [] s s' := by
  have hz := zLen_le aa
  refine ⟨setI (setB s (aa + 1) l.length (zi (b.bmod 256))) aa 1 (zi (l.length + 1)), ?_, ⟨?_, ?_, ?_⟩, ?_⟩
  · unfold f19
    have e : (s.1 aa 1) + zi 1 = zi (l.length + 1) := by rw [h.1, zi_add]
    rw [e, h.1, if_neg (znge ⟨by omega, by omega, by omega⟩), if_pos (zi_ix (by omega) (by omega) (by omega)), zi_nat (by omega) (by omega), zI2B_2, zI2B_zi]
    rfl
  · rw [gI_eq, List.length_append]
    rfl
  · rw [gI_fn (by omega), gB_eq]
    exact h.2.1.snoc rfl rfl
  · rw [List.length_append]
    exact hn
  · exact (fr.refl.sB (by simp)).sI (.inl (by simp))
theorem LN.empty {aa : Nat} {s : zS} : LN aa (setI s aa 1 (zi 0)) [] := ⟨gI_eq _ _ _ _, isL_nil, Nat.zero_le _⟩
theorem LN.of {aa : Nat} {s s' : zS} {l : List Int} (h : LN aa s l) (e1 : s'.1 aa 1 = s.1 aa 1) (e2 : s'.1 (aa + 1) = s.1 (aa + 1)) : LN aa s' l := by
  unfold LN
  rw [e1, e2]
  exact h
/-- a row of the model: its length in the field k, its bytes at b -/
def MN (k b : Nat) (s : zS) (l : List Int) : Prop := s.1 24 k = zi l.length ∧ isL (s.1 b) l
theorem MN.of {k b : Nat} {s s' : zS} {l : List Int} (h : MN k b s l) (e1 : s'.1 24 k = s.1 24 k) (e2 : s'.1 b = s.1 b) : MN k b s' l := by
  unfold MN
  rw [e1, e2]
  exact h
/-! the start -/
def s0 : zS := (fun a k => bif (Nat.beq a 0 && Nat.beq k 9) || (Nat.beq a 24 && (Nat.beq k 5 || Nat.beq k 8)) then (-1) else bif (Nat.beq a 32 || Nat.beq a 34 || Nat.beq a 36) && (Nat.beq k 1 || Nat.beq k 2) then 45 else 0, fun _ _ => 0, 0)
set_option maxRecDepth 100000 in
theorem mk_s0 : mk s0 = mhS := by
  show ((42, 0, 52740), mkc s0) = ((42, 0, 52740), mhI)
  congr 1
  funext k
  match k with
  | 0 => rfl
  | 1 => rfl
  | 2 => rfl
  | 3 => rfl
  | 4 => rfl
  | 5 => rfl
  | 6 => rfl
  | 7 => rfl
  | 8 => rfl
  | 9 => rfl
  | 10 => rfl
  | 11 => rfl
  | 12 => rfl
  | 13 => rfl
  | 14 => rfl
  | 15 => rfl
  | 16 => rfl
  | 17 => rfl
  | 18 => rfl
  | 19 => rfl
  | 20 => rfl
  | 21 => rfl
  | 22 => rfl
  | 23 => rfl
  | 24 => rfl
  | 25 => rfl
  | 26 => rfl
  | 27 => rfl
  | 28 => rfl
  | 29 => rfl
  | 30 => rfl
  | 31 => rfl
  | 32 => rfl
  | 33 => rfl
  | 34 => rfl
  | 35 => rfl
  | 36 => rfl
  | 37 => rfl
  | 38 => rfl
  | 39 => rfl
  | 40 => rfl
  | 41 => rfl
  | k + 42 =>
    have e : mhI (k + 42) = .inr (99, []) := if_neg (by omega)
    rw [e]
    rfl
/-- all that is left: the flat law answers 1 -/
theorem goal_of_flat (h : ∀ (L : Nat) (xs : Nat → Int32), L ≤ 2560 → ∃ s', f256_23 (L, xs) zF (zi 0) s0 = some (zi 1, s')) : mGoal := by
  apply mGoal_of_Ev
  intro L xs hL
  obtain ⟨s', hs⟩ := h L xs hL
  refine ⟨mk s', law_head ?_⟩
  have k := k256_23 (X := (L, xs)) (D := 986) zF (zi 0) s0 (zi 1, s') none none none hs
  rw [mk_s0] at k
  exact k
