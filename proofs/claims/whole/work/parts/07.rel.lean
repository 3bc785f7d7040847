/-! what the small machine's data are in the machine -/
def mtr (B : Nat) (ro : Nat → Value) : Value → Value
  | .ref k => if k < mRO then .ref (B + k) else ro (k - mRO)
  | v => v
theorem mtr_cat {B : Nat} {ro : Nat → Value} (hro : ∀ i, (ro i).category = 1) (v : Value) : (mtr B ro v).category = v.category := by
  cases v <;> try rfl
  rename_i a
  show (if a < mRO then Value.ref (B + a) else ro (a - mRO)).category = 1
  split
  · rfl
  · exact hro _
theorem mtr_sum {B : Nat} {ro : Nat → Value} (hro : ∀ i, (ro i).category = 1) (l : List Value) : ((l.map (mtr B ro)).map fun v => v.category).sum = (l.map fun v => v.category).sum := by
  induction l with
  | nil => rfl
  | cons v l ih => simp only [List.map_cons, List.sum_cons, ih, mtr_cat hro]
def mcv (B : Nat) (ro : Nat → Value) (ca : FieldType → ClassId) : mC → va_E
  | .inl a => .inl (ca a.1, a.2)
  | .inr o => .inr (o.1, o.2.map (mtr B ro))
def mw (B : Nat) (ro : Nat → Value) (ca : FieldType → ClassId) (h : mH) : va_W := (List.range h.1.1).map fun k => (B + k, mcv B ro ca (h.2 k))
theorem mw_get {B : Nat} {ro : Nat → Value} {ca : FieldType → ClassId} {h : mH} {k : Nat} (hk : k < h.1.1) : (mw B ro ca h)[k]? = some (B + k, mcv B ro ca (h.2 k)) := by
  simp [mw, hk]
theorem mw_D {B : Nat} {ro : Nat → Value} {ca : FieldType → ClassId} {h : mH} : va_D (fun q => B ≤ q) (mw B ro ca h) := by
  refine ⟨fun i j p q hi hj e => ?_, fun k q hk => ?_⟩
  · simp only [mw, List.getElem?_map, Option.map_eq_some_iff] at hi hj
    obtain ⟨a, ha, rfl⟩ := hi
    obtain ⟨b, hb, rfl⟩ := hj
    have h1 := (List.getElem?_eq_some_iff.mp ha).2
    have h2 := (List.getElem?_eq_some_iff.mp hb).2
    simp only [List.getElem_range] at h1 h2
    have e' : B + a = B + b := e
    omega
  · simp only [mw, List.getElem?_map, Option.map_eq_some_iff] at hk
    obtain ⟨a, ha, rfl⟩ := hk
    exact Nat.le_add_right B a
/-- the cells of the small machine -/
def mAr (B n : Nat) : Nat → Prop := fun q => B ≤ q ∧ q < B + n
theorem mw_D2 {B : Nat} {ro : Nat → Value} {ca : FieldType → ClassId} {h : mH} : va_D (mAr B h.1.1) (mw B ro ca h) := by
  refine ⟨(mw_D (B := B) (ro := ro) (ca := ca) (h := h)).1, fun k q hk => ?_⟩
  simp only [mw, List.getElem?_map, Option.map_eq_some_iff] at hk
  obtain ⟨a, ha, rfl⟩ := hk
  have h1 := (List.getElem?_eq_some_iff.mp ha)
  obtain ⟨h2, h3⟩ := h1
  simp only [List.getElem_range] at h3
  simp only [List.length_range] at h2
  exact ⟨Nat.le_add_right B a, by show B + a < B + h.1.1; omega⟩
theorem mw_set {B : Nat} {ro : Nat → Value} {ca : FieldType → ClassId} {h : mH} {k : Nat} {x : mC} {y : va_E} (hy : y = mcv B ro ca x) : (mw B ro ca h).set k (B + k, y) = mw B ro ca (h.1, mup h.2 k x) := by
  subst hy
  apply List.ext_getElem?
  intro j
  simp only [mw, List.getElem?_set, List.length_map, List.length_range, List.getElem?_map]
  by_cases hj : j < h.1.1
  · have e : (List.range h.1.1)[j]? = some j := by simp [hj]
    rw [e]
    simp only [Option.map_some]
    by_cases hkj : k = j
    · subst hkj
      simp [mup, hj]
    · have : ¬ j = k := fun z => hkj z.symm
      simp [mup, hkj, this]
  · have e : (List.range h.1.1)[j]? = none := by simp; omega
    rw [e]
    by_cases hkj : k = j
    · subst hkj
      simp [hj]
    · simp [hkj]
theorem mw_push {B : Nat} {ro : Nat → Value} {ca : FieldType → ClassId} {h : mH} {x : mC} {a b : Nat} {y : va_E} (hy : y = mcv B ro ca x) : mw B ro ca h ++ [(B + h.1.1, y)] = mw B ro ca ((h.1.1 + 1, a, b), mup h.2 h.1.1 x) := by
  subst hy
  simp only [mw, List.range_succ, List.map_append, List.map_cons, List.map_nil]
  congr 1
  · apply List.map_congr_left
    intro k hk
    have : k < h.1.1 := List.mem_range.mp hk
    have e : ¬ k = h.1.1 := by omega
    simp [mup, e]
  · simp [mup]
/-! the locals -/
theorem mlg_lt {ls : mL} {i : Nat} {v : Value} (h : mlg ls i = some v) : i < ls.length := by
  induction ls generalizing i with
  | nil => cases h
  | cons x r ih =>
    cases i with
    | zero => simp
    | succ i => have := ih h; simp; omega
theorem mlg_set_eq {ls : mL} {i : Nat} {x : Option Value} (h : i < ls.length) : mlg (ls.set i x) i = x := by
  induction ls generalizing i with
  | nil => simp at h
  | cons y r ih =>
    cases i with
    | zero => rfl
    | succ i => exact ih (by simpa using h)
theorem mlg_set_ne {ls : mL} {i j : Nat} {x : Option Value} (h : ¬ i = j) : mlg (ls.set j x) i = mlg ls i := by
  induction ls generalizing i j with
  | nil => rfl
  | cons y r ih =>
    cases j with
    | zero =>
      cases i with
      | zero => exact absurd rfl h
      | succ i => rfl
    | succ j =>
      cases i with
      | zero => rfl
      | succ i => exact ih (fun e => h (by rw [e]))
theorem mkl_len {ls : mL} {i : Nat} : (mkl ls i).length = ls.length := by
  cases i with
  | zero => rfl
  | succ j =>
    simp only [mkl]
    split
    · split <;> simp
    · rfl
/-- what is left behind the killing was there, and is no long before i -/
theorem mkl_get {ls : mL} {i j : Nat} {w : Value} (h : mlg (mkl ls i) j = some w) : mlg ls j = some w ∧ ¬ (j + 1 = i ∧ w.category = 2) := by
  cases i with
  | zero => exact ⟨h, fun z => by omega⟩
  | succ k =>
    simp only [mkl] at h
    cases hk : mlg ls k with
    | none =>
      rw [hk] at h
      refine ⟨h, fun z => ?_⟩
      have : j = k := by omega
      subst this
      rw [hk] at h
      cases h
    | some v =>
      rw [hk] at h
      simp only at h
      by_cases hc : v.category = 2
      · rw [if_pos hc] at h
        by_cases hj : j = k
        · subst hj
          rw [mlg_set_eq (mlg_lt hk)] at h
          cases h
        · rw [mlg_set_ne hj] at h
          exact ⟨h, fun z => hj (by omega)⟩
      · rw [if_neg hc] at h
        refine ⟨h, fun z => ?_⟩
        have : j = k := by omega
        subst this
        rw [hk] at h
        cases h
        exact hc z.2
def mlv (T : Value → Value) (ls : mL) : List (Nat × Value) := (List.range ls.length).filterMap fun i => (mlg ls i).map fun v => (i, T v)
theorem mlv_mem {T : Value → Value} {ls : mL} {q : Nat × Value} : q ∈ mlv T ls ↔ ∃ v, mlg ls q.1 = some v ∧ q.2 = T v := by
  constructor
  · intro h
    obtain ⟨i, -, hi⟩ := List.mem_filterMap.mp h
    obtain ⟨v, hv, rfl⟩ := Option.map_eq_some_iff.mp hi
    exact ⟨v, hv, rfl⟩
  · rintro ⟨v, hv, e⟩
    refine List.mem_filterMap.mpr ⟨q.1, List.mem_range.mpr (mlg_lt hv), ?_⟩
    rw [hv]
    obtain ⟨a, b⟩ := q
    cases e
    rfl
def mLH (T : Value → Value) (lsR : Array Slot) (nL : Nat) (ls : mL) : Prop := ls.length = nL ∧ lv_has lsR nL (mlv T ls)
theorem mLH.at {T : Value → Value} {lsR : Array Slot} {nL i : Nat} {ls : mL} {v : Value} (h : mLH T lsR nL ls) (hi : mlg ls i = some v) : lsR[i]? = some (.val (T v)) :=
  h.2.2.2 (i, T v) (mlv_mem.mpr ⟨v, hi, rfl⟩)
theorem mLH.st1 {T : Value → Value} (hT : ∀ v, (T v).category = v.category) {ls' : Array Slot} {nL i : Nat} {ls ls2 : mL} {v : Value} (hlen : ls.length = nL) (h2 : mst1 ls i v = some ls2)
    (h : lv_has ls' nL ((i, T v) :: (mlv T ls).filter (fun q => !(q.1 == i) && !(q.1 + 1 == i && q.2.category == 2)))) : mLH T ls' nL ls2 := by
  simp only [mst1] at h2
  split at h2
  · rename_i hi
    cases h2
    refine ⟨by simp [mkl_len, hlen], h.1, h.2.1, fun q hq => ?_⟩
    obtain ⟨w, hw, e⟩ := mlv_mem.mp hq
    by_cases hj : q.1 = i
    · rw [hj, mlg_set_eq (by rw [mkl_len]; exact hi)] at hw
      cases hw
      refine h.2.2 q ?_
      obtain ⟨a, b⟩ := q
      simp only at hj e
      subst hj; subst e
      exact List.mem_cons_self
    · rw [mlg_set_ne hj] at hw
      obtain ⟨h3, h4⟩ := mkl_get hw
      refine h.2.2 q (List.mem_cons_of_mem _ (List.mem_filter.mpr ⟨mlv_mem.mpr ⟨w, h3, e⟩, ?_⟩))
      rw [e, hT]
      simp only [Bool.and_eq_true, Bool.not_eq_true', beq_eq_false_iff_ne, ne_eq, Bool.and_eq_false_iff]
      refine ⟨hj, ?_⟩
      by_cases h5 : q.1 + 1 = i
      · exact Or.inr (fun z => h4 ⟨h5, z⟩)
      · exact Or.inl h5
  · cases h2
theorem mLH.st2 {T : Value → Value} (hT : ∀ v, (T v).category = v.category) {ls' : Array Slot} {nL i : Nat} {ls ls2 : mL} {v : Value} (hlen : ls.length = nL) (h2 : mst2 ls i v = some ls2)
    (h : lv_has ls' nL ((i, T v) :: (mlv T ls).filter (fun q => !(q.1 == i) && (!(q.1 == i + 1) && !(q.1 + 1 == i && q.2.category == 2))))) : mLH T ls' nL ls2 := by
  simp only [mst2] at h2
  split at h2
  · rename_i hi
    cases h2
    refine ⟨by simp [mkl_len, hlen], h.1, h.2.1, fun q hq => ?_⟩
    obtain ⟨w, hw, e⟩ := mlv_mem.mp hq
    by_cases hj1 : q.1 = i + 1
    · rw [hj1, mlg_set_eq (by simp [mkl_len]; exact hi)] at hw
      cases hw
    · rw [mlg_set_ne hj1] at hw
      by_cases hj : q.1 = i
      · rw [hj, mlg_set_eq (by rw [mkl_len]; omega)] at hw
        cases hw
        refine h.2.2 q ?_
        obtain ⟨a, b⟩ := q
        simp only at hj e
        subst hj; subst e
        exact List.mem_cons_self
      · rw [mlg_set_ne hj] at hw
        obtain ⟨h3, h4⟩ := mkl_get hw
        refine h.2.2 q (List.mem_cons_of_mem _ (List.mem_filter.mpr ⟨mlv_mem.mpr ⟨w, h3, e⟩, ?_⟩))
        rw [e, hT]
        simp only [Bool.and_eq_true, Bool.not_eq_true', beq_eq_false_iff_ne, ne_eq, Bool.and_eq_false_iff]
        refine ⟨hj, hj1, ?_⟩
        by_cases h5 : q.1 + 1 = i
        · exact Or.inr (fun z => h4 ⟨h5, z⟩)
        · exact Or.inl h5
  · cases h2
/-- a local that is lost -/
theorem mLH.lose {T : Value → Value} (hT : ∀ v, (T v).category = v.category) {ls' : Array Slot} {nL i : Nat} {ls : mL} {v : Value} (hlen : ls.length = nL) (hi : i < ls.length)
    (h : lv_has ls' nL ((i, v) :: (mlv T ls).filter (fun q => !(q.1 == i) && !(q.1 + 1 == i && q.2.category == 2)))) : mLH T ls' nL (mls0 ls i) := by
  refine ⟨by simp [mls0, mkl_len, hlen], h.1, h.2.1, fun q hq => ?_⟩
  obtain ⟨w, hw, e⟩ := mlv_mem.mp hq
  by_cases hj : q.1 = i
  · rw [mls0, hj, mlg_set_eq (by rw [mkl_len]; exact hi)] at hw
    cases hw
  · rw [mls0, mlg_set_ne hj] at hw
    obtain ⟨h3, h4⟩ := mkl_get hw
    refine h.2.2 q (List.mem_cons_of_mem _ (List.mem_filter.mpr ⟨mlv_mem.mpr ⟨w, h3, e⟩, ?_⟩))
    rw [e, hT]
    simp only [Bool.and_eq_true, Bool.not_eq_true', beq_eq_false_iff_ne, ne_eq, Bool.and_eq_false_iff]
    refine ⟨hj, ?_⟩
    by_cases h5 : q.1 + 1 = i
    · exact Or.inr (fun z => h4 ⟨h5, z⟩)
    · exact Or.inl h5
/-- the locals at the entry -/
theorem mla_lv (T : Value → Value) (hT : ∀ v, (T v).category = v.category) (as : List Value) : ∀ (n : Nat) (i : Nat) (v : Value), mlg (mla as) i = some v → (n + i, T v) ∈ lv_args n (as.map T) := by
  induction as with
  | nil => intro n i v h; cases h
  | cons a as ih =>
    intro n i v h
    simp only [mla] at h
    simp only [List.map_cons, lv_args, hT]
    by_cases hc : a.category = 2
    · rw [if_pos hc] at h
      rw [if_pos hc]
      match i, h with
      | 0, h => cases h; exact List.mem_cons_self
      | 1, h => cases h
      | i + 2, h =>
        have := ih (n + 2) i v h
        rw [show n + 2 + i = n + (i + 2) by omega] at this
        exact List.mem_cons_of_mem _ this
    · rw [if_neg hc] at h
      rw [if_neg hc]
      match i, h with
      | 0, h => cases h; exact List.mem_cons_self
      | i + 1, h =>
        have := ih (n + 1) i v h
        rw [show n + 1 + i = n + (i + 1) by omega] at this
        exact List.mem_cons_of_mem _ this
theorem mlg_app {a b : mL} {i : Nat} {v : Value} (hb : ∀ j, mlg b j = none) (h : mlg (a ++ b) i = some v) : mlg a i = some v := by
  induction a generalizing i with
  | nil => rw [List.nil_append, hb] at h; cases h
  | cons x r ih =>
    cases i with
    | zero => exact h
    | succ i => exact ih h
theorem mlg_rep (n j : Nat) : mlg (List.replicate n none) j = none := by
  induction n generalizing j with
  | zero => rfl
  | succ n ih =>
    cases j with
    | zero => rfl
    | succ j => exact ih j
/-! the room is kept; arrays of bytes hold bytes -/
def mby (h : mH) : Prop := ∀ k n f, h.2 k = .inl (.byte, n, .inl f) → ∀ j, fits .byte (.int (f j)) = true
def mcap (h : mH) : Prop := h.1.1 + h.1.2.1 ≤ mCap ∧ h.1.2.2 ≤ mSap ∧ mby h
theorem mby_up {h : mH} {c : Nat × Nat × Nat} {a : Nat} {x : mC} (hb : mby h) (hx : ∀ n f, x = .inl (.byte, n, .inl f) → ∀ j, fits .byte (.int (f j)) = true) : mby (c, mup h.2 a x) := by
  intro k n f e
  have e' : (if k = a then x else h.2 k) = .inl (.byte, n, .inl f) := e
  by_cases hk : k = a
  · rw [if_pos hk] at e'
    exact hx n f e'
  · rw [if_neg hk] at e'
    exact hb k n f e'
