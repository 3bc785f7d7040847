/-! a spec taken apart: one pure reading, and both programs do it -/
def ndF (g : List Int) : Nat → Nat → Nat
  | 0, _ => 0
  | k + 1, p => if 48 ≤ atl g p ∧ atl g p ≤ 57 then ndF g k (p + 1) + 1 else 0
/-- how many digits from p on -/
def nd (g : List Int) (p : Nat) : Nat := ndF g (g.length + 1 - p) p
theorem atl_in {g : List Int} {p : Nat} (h : 0 ≤ atl g p) : p < g.length := by
  rcases Nat.lt_or_ge p g.length with q | q
  · exact q
  · rw [atl_ge (by omega)] at h
    omega
theorem nd_yes {g : List Int} {p : Nat} (h : 48 ≤ atl g p ∧ atl g p ≤ 57) : nd g p = nd g (p + 1) + 1 := by
  have hp := atl_in (g := g) (p := p) (by omega)
  unfold nd
  obtain ⟨k, hk⟩ : ∃ k, g.length + 1 - p = k + 1 := ⟨g.length - p, by omega⟩
  rw [hk, show g.length + 1 - (p + 1) = k by omega]
  exact if_pos h
theorem nd_no {g : List Int} {p : Nat} (h : ¬ (48 ≤ atl g p ∧ atl g p ≤ 57)) : nd g p = 0 := by
  unfold nd
  cases g.length + 1 - p with
  | zero => rfl
  | succ k => exact if_neg h
theorem nd_le {g : List Int} : ∀ (d p : Nat), d + p = g.length → p + nd g p ≤ g.length := by
  intro d
  induction d with
  | zero =>
    intro p h
    rw [nd_no (by rw [atl_ge (by omega)]; omega)]
    omega
  | succ d ih =>
    intro p h
    by_cases q : 48 ≤ atl g p ∧ atl g p ≤ 57
    · rw [nd_yes q]
      have := ih (p + 1) (by omega)
      omega
    · rw [nd_no q]
      omega
theorem nd_dig {g : List Int} : ∀ (j p : Nat), j < nd g p → 48 ≤ atl g (p + j : Nat) ∧ atl g (p + j : Nat) ≤ 57 := by
  intro j
  induction j with
  | zero =>
    intro p h
    apply Classical.byContradiction
    intro q
    rw [Nat.add_zero] at q
    rw [nd_no q] at h
    omega
  | succ j ih =>
    intro p h
    by_cases q : 48 ≤ atl g p ∧ atl g p ≤ 57
    · rw [nd_yes q] at h
      have := ih (p + 1) (by omega)
      rw [show p + 1 + j = p + (j + 1) by omega] at this
      exact this
    · rw [nd_no q] at h
      omega
/-- the number of k digits from p on -/
def dv (g : List Int) (p : Nat) : Nat → Int
  | 0 => 0
  | k + 1 => dv g p k * 10 + atl g (p + k : Nat) - 48
theorem dv_range {g : List Int} {p : Nat} : ∀ k, k ≤ 4 → k ≤ nd g p → 0 ≤ dv g p k ∧ dv g p k < 10 ^ k ∧ dv g p k < 10000 := by
  intro k
  induction k with
  | zero =>
    intro _ _
    show (0 : Int) ≤ 0 ∧ (0 : Int) < 10 ^ 0 ∧ (0 : Int) < 10000
    decide
  | succ k ih =>
    intro h1 h2
    have h3 := ih (by omega) (by omega)
    have h4 := nd_dig (g := g) k p (by omega)
    show 0 ≤ dv g p k * 10 + atl g (p + k : Nat) - 48 ∧ dv g p k * 10 + atl g (p + k : Nat) - 48 < 10 ^ (k + 1) ∧ dv g p k * 10 + atl g (p + k : Nat) - 48 < 10000
    have q : k = 0 ∨ k = 1 ∨ k = 2 ∨ k = 3 := by omega
    rcases q with rfl | rfl | rfl | rfl <;> simp only [Int.reducePow, Nat.reduceAdd] at * <;> omega
theorem dv_pos {g : List Int} {p : Nat} (h : 49 ≤ atl g p) : ∀ k, k + 1 ≤ nd g p → 1 ≤ dv g p (k + 1) := by
  intro k
  induction k with
  | zero =>
    intro _
    show 1 ≤ (0 : Int) * 10 + atl g (p + 0 : Nat) - 48
    rw [Nat.add_zero]
    omega
  | succ k ih =>
    intro h2
    have h3 := ih (by omega)
    have h4 := nd_dig (g := g) (k + 1) p (by omega)
    show 1 ≤ dv g p (k + 1) * 10 + atl g (p + (k + 1) : Nat) - 48
    omega
theorem r45_eq {c : Int} (h1 : -1 ≤ c) (h2 : c < 256) (s : zS) : r45 (zi c) s = if 48 ≤ c ∧ c ≤ 57 then zi 1 else zi 0 := by
  unfold r45
  by_cases q1 : c < 48
  · rw [if_pos (zlt (by omega)), if_neg (by omega)]
  · rw [if_neg (znlt (by omega))]
    by_cases q2 : c > 57
    · rw [if_pos (zgt (by omega)), if_neg (by omega)]
    · rw [if_neg (zngt (by omega)), if_pos (by omega)]
theorem r196_eq {c : Int} (h1 : -1 ≤ c) (h2 : c < 256) (s : zS) : r196 (zi c) s = if 48 ≤ c ∧ c ≤ 57 then zi 1 else zi 0 := r45_eq h1 h2 s
theorem f44_loop {s : zS} {g : List Int} (hL : LN 3 s g) : ∀ (d i e n : Nat) (x : Int32), d + i = g.length → d < n → f44_4 n x (zi e) (zi i) s = some (zi (e + nd g i : Nat), s) := by
  have hg : g.length ≤ 400 := hL.2.2
  intro d
  induction d with
  | zero =>
    intro i e n x hd hn
    obtain ⟨n, rfl⟩ : ∃ k, n = k + 1 := ⟨n - 1, by omega⟩
    show b44_4 (f44_4 n) _ _ _ _ = _
    unfold b44_4
    rw [show r16 3 s = zi g.length from hL.1, if_pos (zge (by omega)), nd_no (by rw [atl_ge (by omega)]; omega)]
    rfl
  | succ d ih =>
    intro i e n x hd hn
    obtain ⟨n, rfl⟩ : ∃ k, n = k + 1 := ⟨n - 1, by omega⟩
    have hr := atl_range g i
    show b44_4 (f44_4 n) _ _ _ _ = _
    unfold b44_4
    rw [show r16 3 s = zi g.length from hL.1, if_neg (znge (by omega)), hL.at (by omega) (by omega), zb1_mk, r45_eq hr.1 hr.2]
    by_cases q : 48 ≤ atl g i ∧ atl g i ≤ 57
    · rw [if_pos q, if_neg (zne (by omega)), zi_add, zi_add, nd_yes q]
      refine (ih (i + 1) (e + 1) n x (by omega) (by omega)).trans ?_
      rw [show e + 1 + nd g (i + 1) = e + (nd g (i + 1) + 1) by omega]
    · rw [if_neg q, if_pos rfl, nd_no q]
      rfl
theorem f44_eq {s : zS} {g : List Int} (hL : LN 3 s g) {i : Nat} (hi : i ≤ g.length) : f44 (zi i) s = some (zi (nd g i), s) := by
  have hg : g.length ≤ 400 := hL.2.2
  have := f44_loop hL (g.length - i) i 0 zF (zi i) (by omega) (by unfold zF; omega)
  rw [Nat.zero_add] at this
  exact this
theorem f46_loop {s : zS} {g : List Int} (hL : LN 3 s g) {q m : Nat} (hq : s.1 7 0 = zi q) (hb : q ≤ g.length) {e : Int} (he : r265 (zi e) (zi 4) s = zi m) (hm : m ≤ 4) : ∀ (d i n : Nat), d + i = m → d < n → f46_5 n (zi e) (zi (dv g q i)) (zi i) s = some (zi (dv g q m), s) := by
  have hg : g.length ≤ 400 := hL.2.2
  intro d
  induction d with
  | zero =>
    intro i n hd hn
    obtain ⟨n, rfl⟩ : ∃ k, n = k + 1 := ⟨n - 1, by omega⟩
    show b46_5 (f46_5 n) _ _ _ _ = _
    unfold b46_5
    rw [he, if_pos (zge (by omega)), show i = m by omega]
  | succ d ih =>
    intro i n hd hn
    obtain ⟨n, rfl⟩ : ∃ k, n = k + 1 := ⟨n - 1, by omega⟩
    show b46_5 (f46_5 n) _ _ _ _ = _
    unfold b46_5
    rw [he, if_neg (znge (by omega)), hq, zi_add, hL.at (by omega) (by omega), zb1_mk, zi_mul, zi_add, zi_sub, zi_add]
    exact ih (i + 1) n (by omega) (by omega)
theorem f46_eq {s : zS} {g : List Int} (hL : LN 3 s g) {q e : Nat} (hq : s.1 7 0 = zi q) (hb : q ≤ g.length) (he : e ≤ 1000) : f46 (zi e) s = some (zi (dv g q (if e ≤ 4 then e else 4)), s) := by
  have hm : r265 (zi e) (zi 4) s = zi (if e ≤ 4 then e else 4 : Nat) := by
    unfold r265
    by_cases h : e ≤ 4
    · rw [if_neg (zngt (by omega)), if_pos h]
    · rw [if_pos (zgt (by omega)), if_neg h]
      rfl
  exact f46_loop hL hq hb hm (by split <;> omega) (if e ≤ 4 then e else 4) 0 zF (by omega) (by unfold zF; split <;> omega)
theorem MN.at {s : zS} {g : List Int} (hL : MN 34 26 s g) (hg : g.length ≤ 400) (ha : asc g) {i : Nat} (hi : i < 2147483648) : f195 (zi i) s = some (zi (atl g i), s) := by
  unfold f195
  rw [hL.1]
  by_cases h : i < g.length
  · rw [if_neg (znge (by omega)), if_pos (zi_ix (by omega) (by omega) (by omega)), zi_toNat (by omega), hL.2.get h, atl_asc ha h]
  · rw [if_pos (zge (by omega)), atl_ge (by omega)]
theorem f197_loop {s : zS} {g : List Int} (hL : MN 34 26 s g) (hg : g.length ≤ 400) (ha : asc g) : ∀ (d i n : Nat) (x : Int32), d + i = g.length → d < n → f197_2 n x (zi i) s = some (zi (i + nd g i : Nat), s) := by
  intro d
  induction d with
  | zero =>
    intro i n x hd hn
    obtain ⟨n, rfl⟩ : ∃ k, n = k + 1 := ⟨n - 1, by omega⟩
    show b197_2 (f197_2 n) _ _ _ = _
    unfold b197_2
    rw [hL.at hg ha (by omega), zb1_mk, nd_no (by rw [atl_ge (by omega)]; omega), atl_ge (by omega), r196_eq (by omega) (by omega), if_neg (show ¬ ((48 : Int) ≤ -1 ∧ (-1 : Int) ≤ 57) by omega), if_pos rfl]
    rfl
  | succ d ih =>
    intro i n x hd hn
    obtain ⟨n, rfl⟩ : ∃ k, n = k + 1 := ⟨n - 1, by omega⟩
    have hr := atl_range g i
    show b197_2 (f197_2 n) _ _ _ = _
    unfold b197_2
    rw [hL.at hg ha (by omega), zb1_mk, r196_eq hr.1 hr.2]
    by_cases q : 48 ≤ atl g i ∧ atl g i ≤ 57
    · rw [if_pos q, if_neg (zne (by omega)), zi_add, nd_yes q]
      refine (ih (i + 1) n x (by omega) (by omega)).trans ?_
      rw [show i + 1 + nd g (i + 1) = i + (nd g (i + 1) + 1) by omega]
    · rw [if_neg q, if_pos rfl, nd_no q]
      rfl
theorem f197_eq {s : zS} {g : List Int} (hL : MN 34 26 s g) (hg : g.length ≤ 400) (ha : asc g) {i : Nat} (hi : i ≤ g.length) : f197 (zi i) s = some (zi (i + nd g i : Nat), s) :=
  f197_loop hL hg ha (g.length - i) i zF (zi i) (by omega) (by unfold zF; omega)
theorem f198_loop {s : zS} {g : List Int} (hL : MN 34 26 s g) (hg : g.length ≤ 400) (ha : asc g) {p e : Nat} (hb : p + e ≤ g.length) : ∀ (d i n : Nat), d + i = e → d < n → f198_5 n (zi (p + e : Nat)) (zi (dv g p i)) (zi (p + i : Nat)) s = some (zi (dv g p e), s) := by
  intro d
  induction d with
  | zero =>
    intro i n hd hn
    obtain ⟨n, rfl⟩ : ∃ k, n = k + 1 := ⟨n - 1, by omega⟩
    show b198_5 (f198_5 n) _ _ _ _ = _
    unfold b198_5
    rw [if_pos (zge (by omega)), show i = e by omega]
  | succ d ih =>
    intro i n hd hn
    obtain ⟨n, rfl⟩ : ∃ k, n = k + 1 := ⟨n - 1, by omega⟩
    show b198_5 (f198_5 n) _ _ _ _ = _
    unfold b198_5
    rw [if_neg (znge (by omega)), hL.at hg ha (by omega), zb1_mk, zi_mul, zi_add, zi_sub, zi_add, Int.mul_comm 10]
    exact ih (i + 1) n (by omega) (by omega)
theorem f198_eq {s : zS} {g : List Int} (hL : MN 34 26 s g) (hg : g.length ≤ 400) (ha : asc g) {p e : Nat} (hb : p + e ≤ g.length) : f198 (zi p) (zi (p + e : Nat)) s = some (zi (dv g p e), s) :=
  f198_loop hL hg ha hb e 0 zF (by omega) (by unfold zF; omega)
/-! letters -/
theorem ix_flags : ∀ c, c < 128 → zidx 4 (zI2C (zi (c : Nat))) = zidx 56 (zi c) := by decide +kernel
theorem ix_flags0 : zidx 56 (zi (-1)) < zi 0 := by decide +kernel
theorem ix_flag48 : ¬ zidx 56 (zi 48) < zi 0 := by decide +kernel
theorem ix_conv : ∀ c, c < 128 → c = 116 ∨ c = 84 ∨ (zidx 5 (zI2C (zi (c : Nat))) < zi 0 ↔ zidx 57 (zi c) < zi 0) := by decide +kernel
theorem ix_conv_t : ¬ zidx 57 (zi 116) < zi 0 ∧ ¬ zidx 57 (zi 84) < zi 0 := by decide +kernel
theorem ix_time : ∀ c, c < 128 → zidx 6 (zI2C (zi (c : Nat))) = zidx 58 (zi c) := by decide +kernel
theorem ix_prec : ∀ c, c < 128 → zidx 7 (zI2C (zi (c : Nat))) = zidx 59 (zi c) := by decide +kernel
theorem int128 {c : Int} (h1 : 0 ≤ c) (h2 : c ≤ 127) : ∃ k : Nat, k < 128 ∧ c = k := ⟨c.toNat, by omega, by omega⟩
/-! flags -/
def fbit (g : List Int) (p : Nat) : Int32 := zshl (zi 1) (zidx 56 (zi (atl g p)))
def flF (g : List Int) : Nat → Nat → Int32 → Int → Int32 × Int × Nat
  | 0, p, f, t => (f, t, p)
  | k + 1, p, f, t => if zidx 56 (zi (atl g p)) < zi 0 then (f, t, p) else flF g k (p + 1) (f ||| fbit g p) (if t = 0 ∧ (f &&& fbit g p) = zi 0 then 0 else 1)
def fl (g : List Int) (p : Nat) (f : Int32) (t : Int) : Int32 × Int × Nat := flF g (g.length + 1 - p) p f t
theorem fl_no {g : List Int} {p : Nat} {f : Int32} {t : Int} (h : zidx 56 (zi (atl g p)) < zi 0) : fl g p f t = (f, t, p) := by
  unfold fl
  cases g.length + 1 - p with
  | zero => rfl
  | succ k => exact if_pos h
theorem fl_in {g : List Int} {p : Nat} (h : ¬ zidx 56 (zi (atl g p)) < zi 0) : p < g.length := by
  rcases Nat.lt_or_ge p g.length with q | q
  · exact q
  · rw [atl_ge (by omega)] at h
    exact absurd ix_flags0 h
theorem fl_yes {g : List Int} {p : Nat} {f : Int32} {t : Int} (h : ¬ zidx 56 (zi (atl g p)) < zi 0) : fl g p f t = fl g (p + 1) (f ||| fbit g p) (if t = 0 ∧ (f &&& fbit g p) = zi 0 then 0 else 1) := by
  have hp := fl_in h
  unfold fl
  obtain ⟨k, hk⟩ : ∃ k, g.length + 1 - p = k + 1 := ⟨g.length - p, by omega⟩
  rw [hk, show g.length + 1 - (p + 1) = k by omega]
  exact if_neg h
theorem fl_all {g : List Int} : ∀ (d p : Nat) (f : Int32) (t : Int), d + p = g.length → (t = 0 ∨ t = 1) → (fl g p f t).2.2 ≤ g.length ∧ ((fl g p f t).2.1 = 0 ∨ (fl g p f t).2.1 = 1) ∧ zidx 56 (zi (atl g (fl g p f t).2.2)) < zi 0 := by
  intro d
  induction d with
  | zero =>
    intro p f t hd ht
    have h0 : zidx 56 (zi (atl g p)) < zi 0 := by
      rw [atl_ge (by omega)]
      exact ix_flags0
    rw [fl_no h0]
    exact ⟨by show p ≤ _; omega, ht, h0⟩
  | succ d ih =>
    intro p f t hd ht
    by_cases h0 : zidx 56 (zi (atl g p)) < zi 0
    · rw [fl_no h0]
      exact ⟨by show p ≤ _; omega, ht, h0⟩
    · rw [fl_yes h0]
      exact ih (p + 1) _ _ (by omega) (by split <;> omega)
theorem f40_loop {g : List Int} (ha : asc g) : ∀ (d i n : Nat) (s : zS) (f : Int32) (t : Int), d + i = g.length → d < n → LN 3 s g → s.1 7 0 = zi i → s.1 7 2 = f → s.1 7 3 = zi t → (t = 0 ∨ t = 1) →
    ∃ s', f40_15 n (zi i) s = some s' ∧ s'.1 7 0 = zi (fl g i f t).2.2 ∧ s'.1 7 2 = (fl g i f t).1 ∧ s'.1 7 3 = zi (fl g i f t).2.1 ∧ s'.1 7 1 = s.1 7 1 ∧ fr [7] [] s s' := by
  intro d
  induction d with
  | zero =>
    intro i n s f t hd hn hL h0 h2 h3 ht
    obtain ⟨n, rfl⟩ : ∃ k, n = k + 1 := ⟨n - 1, by omega⟩
    have hg : g.length ≤ 400 := hL.2.2
    rw [fl_no (by rw [atl_ge (by omega)]; exact ix_flags0)]
    refine ⟨s, ?_, h0, h2, h3, rfl, fr.refl⟩
    show b40_15 (f40_15 n) _ _ = _
    unfold b40_15
    rw [show r16 3 s = zi g.length from hL.1, if_pos (zge (by omega))]
  | succ d ih =>
    intro i n s f t hd hn hL h0 h2 h3 ht
    obtain ⟨n, rfl⟩ : ∃ k, n = k + 1 := ⟨n - 1, by omega⟩
    have hg : g.length ≤ 400 := hL.2.2
    have hi : i < g.length := by omega
    have hc := ha _ (List.getElem_mem hi)
    rw [← atl_asc ha hi] at hc
    obtain ⟨c, hc1, hc2⟩ := int128 hc.1 hc.2
    have ex := ix_flags c hc1
    rw [← hc2] at ex
    have e0 : f40_15 (n + 1) (zi i) s = b40_15 (f40_15 n) (zi i) s := rfl
    rw [e0]
    unfold b40_15
    rw [show r16 3 s = zi g.length from hL.1, if_neg (znge (by omega)), hL.at (by omega) (by omega), zb1_mk, ex]
    by_cases q : zidx 56 (zi (atl g i)) < zi 0
    · rw [fl_no q]
      refine ⟨s, ?_, h0, h2, h3, rfl, fr.refl⟩
      rw [if_neg (by rw [ge_iff_le, Int32.not_le]; exact q)]
    · rw [fl_yes q, if_pos (by rw [ge_iff_le]; exact Int32.not_lt.mp q)]
      have key : ∀ y : Int, (y = 0 ∨ y = 1) → ∃ s', f40_63 (f40_15 n) (zi i) (zidx 56 (zi (atl g i))) (zi y) s = some s' ∧ s'.1 7 0 = zi (fl g (i + 1) (f ||| fbit g i) y).2.2 ∧ s'.1 7 2 = (fl g (i + 1) (f ||| fbit g i) y).1 ∧ s'.1 7 3 = zi (fl g (i + 1) (f ||| fbit g i) y).2.1 ∧ s'.1 7 1 = s.1 7 1 ∧ fr [7] [] s s' := by
        intro y hy
        have hbit : mBit (zi y) := by rcases hy with rfl | rfl <;> decide
        obtain ⟨s', q1, q2, q3, q4, q5, q6⟩ := ih (i + 1) n (setI (setI (setI s 7 3 (zi y)) 7 2 (f ||| fbit g i)) 7 0 (zi (i + 1 : Nat))) (f ||| fbit g i) y (by omega) (by omega) hL rfl rfl rfl hy
        refine ⟨s', ?_, q2, q3, q4, q5, (((fr.refl.sI (.inl rfl)).sI (.inl rfl)).sI (.inl rfl)).trans q6⟩
        unfold f40_63
        rw [if_pos hbit, zi_add, h2]
        exact q1
      rcases ht with rfl | rfl
      · rw [h3, if_neg (not_not_intro rfl)]
        unfold r51
        rw [h2]
        by_cases w : (f &&& fbit g i) = zi 0
        · have w' : (f &&& zshl (zi 1) (zidx 56 (zi (atl g i)))) = zi 0 := w
          rw [if_pos w', if_pos rfl, if_pos ⟨rfl, w⟩]
          exact key 0 (.inl rfl)
        · have w' : ¬ (f &&& zshl (zi 1) (zidx 56 (zi (atl g i)))) = zi 0 := w
          rw [if_neg w', if_neg (zne (by omega)), if_neg (fun h => w h.2)]
          exact key 1 (.inr rfl)
      · rw [h3, if_pos (zne (by omega)), if_neg (fun h => absurd h.1 (by decide))]
        exact key 1 (.inr rfl)
/-! the parts of a spec -/
def spA (g : List Int) (p : Nat) : Option (Int × Nat) :=
  if nd g (p + 1) > 0 ∧ atl g (p + 1 + nd g (p + 1) : Nat) = 36 then (if nd g (p + 1) > 4 ∨ atl g (p + 1 : Nat) = 48 then none else some (dv g (p + 1) (nd g (p + 1)), p + 1 + nd g (p + 1) + 1))
  else if atl g (p + 1 : Nat) = 60 then some (-1, p + 2) else some (0, p + 1)
def spW (g : List Int) (q : Nat) : Option (Int × Nat) :=
  if nd g q > 4 then none else if dv g q (nd g q) > 2000 then none else some (if nd g q = 0 then -1 else dv g q (nd g q), q + nd g q)
def spP (g : List Int) (q : Nat) : Option (Int × Nat) :=
  if atl g q = 46 then (if nd g (q + 1) = 0 then none else if nd g (q + 1) > 4 then none else if dv g (q + 1) (nd g (q + 1)) > 1100 then none else some (dv g (q + 1) (nd g (q + 1)), q + 1 + nd g (q + 1)))
  else some (-1, q)
def cvOf (c : Int) : Int := if 65 ≤ c ∧ c ≤ 90 then c + 32 else c
def capOf (c : Int) : Int := if 65 ≤ c ∧ c ≤ 90 then 1 else 0
def spC (g : List Int) (q : Nat) : Option (Int × Int × Int × Nat) :=
  if atl g q < 0 ∨ zidx 57 (zi (atl g q)) < zi 0 then none
  else if cvOf (atl g q) = 116 then (if atl g (q + 1 : Nat) < 0 ∨ zidx 58 (zi (atl g (q + 1 : Nat))) < zi 0 then none else some (116, capOf (atl g q), atl g (q + 1 : Nat), q + 2))
  else some (cvOf (atl g q), capOf (atl g q), 0, q + 1)
/-- which argument; flags, twice, their end; width or -1; precision or -1; conversion, capital, suffix, end -/
def sp (g : List Int) (p : Nat) : Option (Int × (Int32 × Int × Nat) × Int × Int × (Int × Int × Int × Nat)) :=
  match spA g p with
  | none => none
  | some (w, q) => match spW g (fl g q (zi 0) 0).2.2 with
    | none => none
    | some (W, q3) => match spP g q3 with
      | none => none
      | some (pr, q4) => match spC g q4 with
        | none => none
        | some c => some (w, fl g q (zi 0) 0, W, pr, c)
def flt (f : Int32) (t W pr cv : Int) : Int :=
  if t = 1 then 2 else if ¬ (f &&& (r200 (zi cv) s0 ^^^ zi (-1))) = zi 0 then 3 else if W < 0 ∧ ¬ (f &&& zi 17) = zi 0 then 4
  else if ¬ (f &&& zi 1) = zi 0 ∧ ¬ (f &&& zi 16) = zi 0 then 5 else if ¬ (f &&& zi 4) = zi 0 ∧ ¬ (f &&& zi 8) = zi 0 then 5
  else if cv = 110 ∧ 0 ≤ W then 6 else if 0 ≤ pr ∧ ¬ zidx 59 (zi cv) < zi 0 then 7 else 0
/-- the fault of the spec at p -/
def spF (g : List Int) (p : Nat) : Int := match sp g p with
  | none => 1
  | some (_, (f, t, _), W, pr, (cv, _)) => flt f t W pr cv
