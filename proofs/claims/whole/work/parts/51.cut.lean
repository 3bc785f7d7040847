/-! cut, and what is cut: words, texts, characters -/
theorem asc_b : ∀ c, c < 128 → ¬ (zi (c : Nat) &&& zi 192) = zi 128 := by decide +kernel
theorem asc_begin {v : Int} (h : 0 ≤ v ∧ v ≤ 127) : ¬ (zi v &&& zi 192) = zi 128 := by
  obtain ⟨c, h1, h2⟩ := int128 h.1 h.2
  rw [h2]
  exact asc_b c h1
theorem f83_loop {l : List Int} (ha : asc l) (hl : l.length ≤ 1600) {g z : Int} {p : Nat} (hp : p ≤ 2000) : ∀ (d i n : Nat) (s : zS), d + i = l.length → i ≤ p → d < n → PC s l g z → g = 0 →
    ∃ s', f83_9 n (zi p) (zi i) (zi i) s = some s' ∧ PC s' (l.take p) 0 z ∧ fr [13] [] s s' := by
  have n01 : ¬ zi 1 = zi 0 := zne (by omega)
  intro d
  induction d with
  | zero =>
    intro i n s hd hi hn hP hg
    subst hg
    obtain ⟨n, rfl⟩ : ∃ k, n = k + 1 := ⟨n - 1, by omega⟩
    refine ⟨s, ?_, by rw [List.take_of_length_le (by omega)]; exact hP, fr.refl⟩
    show b83_9 (f83_9 n) _ _ _ _ = _
    unfold b83_9
    rw [hP.1, if_pos (zge (by omega))]
  | succ d ih =>
    intro i n s hd hi hn hP hg
    subst hg
    obtain ⟨n, rfl⟩ : ∃ k, n = k + 1 := ⟨n - 1, by omega⟩
    have hil : i < l.length := by omega
    have hv := ha _ (List.getElem_mem hil)
    have e0 : f83_9 (n + 1) (zi p) (zi i) (zi i) s = f83_38 (f83_9 n) (zi p) (zi i) (zi i) (zi 1) s := by
      show b83_9 (f83_9 n) _ _ _ _ = _
      unfold b83_9
      rw [hP.1, if_neg (znge (by omega)), if_pos (zi_ix (by omega) (by omega) (by omega)), zi_toNat (by omega), hP.2.1.get hil, if_neg (asc_begin hv)]
    rw [e0]
    unfold f83_38
    rw [if_neg n01]
    by_cases q : i = p
    · subst q
      rw [if_neg (not_not_intro rfl), zi_sub]
      refine ⟨_, rfl, ⟨?_, hP.2.1.take i, ?_, hP.2.2.2⟩, (fr.refl.sI (.inl rfl)).sI (.inl rfl)⟩
      · rw [List.length_take, Nat.min_eq_left (by omega)]
        rfl
      · show zi ((i : Int) - i) = zi 0
        congr 1
        omega
    · unfold f83_63
      rw [if_pos (zne (by omega)), if_neg n01, zi_add]
      exact ih (i + 1) n s (by omega) (by omega) (by omega) hP rfl
theorem PC.cut {s : zS} {l : List Int} {z : Int} (h : PC s l 0 z) (ha : asc l) (hl : l.length ≤ 1600) {pr : Int} (h1 : -1 ≤ pr) (h2 : pr ≤ 1100) : ∃ s', f83 (zi pr) s = some s' ∧ PC s' (if pr < 0 then l else l.take pr.toNat) 0 z ∧ fr [13] [] s s' := by
  unfold f83
  by_cases q : pr < 0
  · rw [if_neg (znge (by omega)), if_pos q]
    exact ⟨s, rfl, h, fr.refl⟩
  · rw [if_pos (zge (by omega)), if_neg q]
    obtain ⟨p, rfl⟩ : ∃ p : Nat, pr = p := ⟨pr.toNat, by omega⟩
    rw [Int.toNat_natCast]
    exact f83_loop ha hl (by omega) l.length 0 zF s (by omega) (by omega) (by unfold zF; omega) h rfl
/-- the reference's cut -/
theorem f202_176_loop {l : List Int} (ha : asc l) (hl : l.length ≤ 6000) {p : Nat} (hp : p < l.length) : ∀ (d i n : Nat) (s : zS), d + i = p → d < n → MD s l i → s.1 24 17 = zi p →
    ∃ s', f202_176 n (zi i) s = some s' ∧ MD s' (l.take p) p ∧ fr [] [30, 31] s s' := by
  intro d
  induction d with
  | zero =>
    intro i n s hd hn hM h17
    obtain ⟨n, rfl⟩ : ∃ k, n = k + 1 := ⟨n - 1, by omega⟩
    have hip : i = p := by omega
    subst hip
    refine ⟨setI s 24 30 (zi i), ?_, ⟨?_, hM.2.1.take i, hM.2.2⟩, fr.refl.sI (.inr ⟨rfl, rfl⟩)⟩
    · show b202_176 (f202_176 n) _ _ = _
      unfold b202_176
      rw [hM.2.2, h17, if_pos (zge (by omega))]
    · rw [List.length_take, Nat.min_eq_left (by omega)]
      rfl
  | succ d ih =>
    intro i n s hd hn hM h17
    obtain ⟨n, rfl⟩ : ∃ k, n = k + 1 := ⟨n - 1, by omega⟩
    have e0 : f202_176 (n + 1) (zi i) s = f202_176 n (zi (i + 1 : Nat)) (setI s 24 31 (zi (i + 1 : Nat))) := by
      show b202_176 (f202_176 n) _ _ = _
      unfold b202_176
      rw [hM.2.2, h17, if_neg (znge (by omega)), zi_add]
      show b202_190 (f202_176 n) (f202_190 (f202_176 n) 999999) (zi (i + 1 : Nat)) s = _
      unfold b202_190 f202_222
      rw [hM.1]
      by_cases q : i + 1 < l.length
      · have hv := ha _ (List.getElem_mem q)
        rw [if_neg (znge (by omega)), if_pos (zi_ix (by omega) (by omega) (by omega)), zi_toNat (by omega), hM.2.1.get q, if_pos (asc_begin hv), hM.2.2, zi_add]
        rfl
      · rw [if_pos (zge (by omega)), hM.2.2, zi_add]
        rfl
    obtain ⟨s', b1, b2, b3⟩ := ih (i + 1) n (setI s 24 31 (zi (i + 1 : Nat))) (by omega) (by omega) ⟨hM.1, hM.2.1, rfl⟩ h17
    exact ⟨s', e0.trans b1, b2, (fr.refl.sI (.inr ⟨rfl, rfl⟩)).trans b3⟩
theorem MD.cut {s : zS} {l : List Int} (h : MD s l l.length) (ha : asc l) (hl : l.length ≤ 6000) {pr : Int} (h17 : s.1 24 17 = zi pr) (h1 : -1 ≤ pr) (h2 : pr ≤ 1100) : ∃ s', f202_150 s = some s' ∧ MD s' (if pr < 0 then l else l.take pr.toNat) (if pr < 0 then l else l.take pr.toNat).length ∧ fr [] [30, 31] s s' := by
  unfold f202_150
  rw [h17, h.2.2]
  by_cases q : pr < 0
  · rw [if_pos (zlt (by omega)), if_pos q]
    exact ⟨s, rfl, h, fr.refl⟩
  · rw [if_neg (znlt (by omega)), if_neg q]
    obtain ⟨p, rfl⟩ : ∃ p : Nat, pr = p := ⟨pr.toNat, by omega⟩
    rw [Int.toNat_natCast]
    by_cases q2 : l.length ≤ p
    · rw [if_pos (zle (by omega)), List.take_of_length_le q2]
      exact ⟨s, rfl, h, fr.refl⟩
    · rw [if_neg (znle (by omega))]
      obtain ⟨s', b1, b2, b3⟩ := f202_176_loop ha hl (p := p) (by omega) p 0 zF (setI s 24 31 (zi 0)) (by omega) (by unfold zF; omega) ⟨h.1, h.2.1, rfl⟩ h17
      refine ⟨s', b1, ?_, (fr.refl.sI (.inr ⟨rfl, rfl⟩)).trans b3⟩
      rw [List.length_take, Nat.min_eq_left (by omega)]
      exact b2
/-- a word, cut: both write it -/
def cutL (pr : Int) (l : List Int) : List Int := if pr < 0 then l else l.take pr.toNat
theorem cutL_asc {pr : Int} {l : List Int} (h : asc l) : asc (cutL pr l) := by
  unfold cutL
  split
  · exact h
  · exact fun v hv => h v (List.mem_of_mem_take hv)
theorem cutL_len (pr : Int) (l : List Int) : (cutL pr l).length ≤ l.length := by
  unfold cutL
  split
  · exact Nat.le_refl _
  · rw [List.length_take]
    omega
theorem PR.plain {l : List Int} (ha : asc l) (hl : l.length ≤ 1600) (W : Int) (F : Int32) : PR l 0 (-1) l l.length W F := ⟨ha.byt, hl, Int.le_refl _, by omega, .inl ⟨rfl, rfl, by omega⟩⟩
theorem lits_words : lit 14 = lit 60 ∧ lit 16 = lit 61 ∧ lit 15 = lit 62 := by decide +kernel
