/-! what is written: the class's piece, the reference's made and body -/
theorem bmod_id {b : Int} (h1 : -128 ≤ b) (h2 : b ≤ 127) : b.bmod 256 = b := by
  rw [Int.bmod_def]
  omega
/-- the piece: its bytes, how many go on, where zeros go -/
def PC (s : zS) (l : List Int) (g z : Int) : Prop := s.1 13 1 = zi l.length ∧ isL (s.1 14) l ∧ s.1 13 2 = zi g ∧ s.1 13 3 = zi z
theorem PC.mv {A B : List Nat} {s s' : zS} {l : List Int} {g z : Int} (h : fr A B s s') (hP : PC s l g z) (c1 : A.contains 13 = false) (c2 : A.contains 14 = false) : PC s' l g z := by
  unfold PC
  rw [h.f c1 (by decide), h.f c2 (by decide)]
  exact hP
theorem PC.addb {s : zS} {l : List Int} {g z : Int} (h : PC s l g z) (hl : l.length < 1600) (b : Int) : ∃ s', f70 (zi b) s = some s' ∧ PC s' (l ++ [b.bmod 256]) g z ∧ fr [13, 14] [] s s' := by
  refine ⟨setI (setB s 14 l.length (zi (b.bmod 256))) 13 1 (zi (l.length + 1 : Nat)), ?_, ⟨?_, ?_, h.2.2.1, h.2.2.2⟩, (fr.refl.sB rfl).sI (.inl rfl)⟩
  · unfold f70
    rw [h.1, if_neg (znge (by omega)), if_pos (zi_ix (by omega) (by omega) (by omega)), zi_toNat (by omega), zI2B_2, zI2B_zi, zi_add]
    rfl
  · rw [List.length_append]
    rfl
  · exact h.2.1.snoc rfl rfl
theorem PC.add {s : zS} {l : List Int} {g z : Int} (h : PC s l g z) (hl : l.length < 1600) {b : Int} (h1 : -128 ≤ b) (h2 : b ≤ 127) : ∃ s', f70 (zi b) s = some s' ∧ PC s' (l ++ [b]) g z ∧ fr [13, 14] [] s s' := by
  have := h.addb hl b
  rwa [bmod_id h1 h2] at this
theorem PC.start (s : zS) : ∃ s', f69 s = some s' ∧ PC s' [] 0 (-1) ∧ fr [13] [] s s' :=
  ⟨_, rfl, ⟨rfl, isL_nil, rfl, rfl⟩, ((fr.refl.sI (.inl rfl)).sI (.inl rfl)).sI (.inl rfl)⟩
/-- the reference's made, and how wide it is -/
def MD (s : zS) (l : List Int) (w : Int) : Prop := s.1 24 30 = zi l.length ∧ isL (s.1 39) l ∧ s.1 24 31 = zi w
theorem MD.mv {A B : List Nat} {s s' : zS} {l : List Int} {w : Int} (h : fr A B s s') (hP : MD s l w) (c1 : A.contains 24 = false) (c2 : A.contains 39 = false) (b1 : B.contains 30 = false) (b2 : B.contains 31 = false) : MD s' l w := by
  unfold MD
  rw [h.1 24 30 c1 (fun _ => b1), h.f c2 (by decide), h.1 24 31 c1 (fun _ => b2)]
  exact hP
theorem MD.addb {s : zS} {l : List Int} {w : Int} (h : MD s l w) (hl : l.length < 12000) (b : Int) : ∃ s', f175 (zi b) s = some s' ∧ MD s' (l ++ [b.bmod 256]) (w + 1) ∧ fr [39] [30, 31] s s' := by
  refine ⟨setI (setI (setB s 39 l.length (zi (b.bmod 256))) 24 30 (zi (l.length + 1 : Nat))) 24 31 (zi (w + 1)), ?_, ⟨?_, ?_, rfl⟩, ((fr.refl.sB rfl).sI (.inr ⟨rfl, rfl⟩)).sI (.inr ⟨rfl, rfl⟩)⟩
  · unfold f175
    rw [h.1, if_pos (zi_ix (by omega) (by omega) (by omega)), zi_toNat (by omega), zI2B_2, zI2B_zi, zi_add, h.2.2, zi_add]
    rfl
  · rw [List.length_append]
    rfl
  · exact h.2.1.snoc rfl rfl
theorem MD.add {s : zS} {l : List Int} {w : Int} (h : MD s l w) (hl : l.length < 12000) {b : Int} (h1 : -128 ≤ b) (h2 : b ≤ 127) : ∃ s', f175 (zi b) s = some s' ∧ MD s' (l ++ [b]) (w + 1) ∧ fr [39] [30, 31] s s' := by
  have := h.addb hl b
  rwa [bmod_id h1 h2] at this
/-- the reference's body -/
def BD (s : zS) (l : List Int) : Prop := s.1 24 33 = zi l.length ∧ isL (s.1 40) l
theorem BD.add {s : zS} {l : List Int} (h : BD s l) (hl : l.length < 6000) {b : Int} (h1 : -128 ≤ b) (h2 : b ≤ 127) : ∃ s', f181 (zi b) s = some s' ∧ BD s' (l ++ [b]) ∧ fr [40] [33] s s' := by
  refine ⟨setB (setI s 24 33 (zi (l.length + 1 : Nat))) 40 l.length (zi b), ?_, ⟨?_, ?_⟩, (fr.refl.sI (.inr ⟨rfl, rfl⟩)).sB rfl⟩
  · unfold f181
    rw [h.1, if_pos (zi_ix (by omega) (by omega) (by omega)), zi_toNat (by omega), zI2B_2, zI2B_id h1 (by omega), zi_add]
    rfl
  · rw [List.length_append]
    rfl
  · exact h.2.snoc rfl rfl
/-! literals -/
def lit (c : Nat) : List Int := (mSB.getD c []).map Int32.toInt
theorem lit_len (c : Nat) : (lit c).length = zlenN c := List.length_map ..
theorem lit_asc0 : (List.range 78).all (fun c => (lit c).all (fun v => decide (0 ≤ v ∧ v ≤ 127))) = true := by decide +kernel
theorem lit_asc {c : Nat} (hc : c < 78) : asc (lit c) := by
  intro v hv
  have h := List.all_eq_true.mp lit_asc0 c (List.mem_range.mpr hc)
  exact of_decide_eq_true (List.all_eq_true.mp h v hv)
theorem lit_len0 : (List.range 78).all (fun c => decide (zlenN c ≤ 200)) = true := by decide +kernel
theorem lit_small {c : Nat} (hc : c < 78) : (lit c).length ≤ 200 := by
  rw [lit_len]
  exact of_decide_eq_true (List.all_eq_true.mp lit_len0 c (List.mem_range.mpr hc))
theorem zchr_eq {c i : Nat} (hi : i < (lit c).length) (h2 : i < 2147483648) : zchr c (zi i) = zi ((lit c)[i]) := by
  unfold zchr zbyte
  rw [zi_toNat h2]
  have h3 : i < (mSB.getD c []).length := by
    rw [lit_len] at hi
    exact hi
  have e : (lit c)[i] = ((mSB.getD c [])[i]).toInt := by
    exact List.getElem_map (l := mSB.getD c []) (f := Int32.toInt) ..
  rw [e, List.getD_eq_getElem?_getD, List.getElem?_eq_getElem h3]
  show (mSB.getD c [])[i] = Int32.ofInt ((mSB.getD c [])[i]).toInt
  rw [Int32.ofInt_toInt]
theorem f72_loop {c : Nat} (hc : c < 78) {k : Nat} (hk : k ≤ 2000) : ∀ (d i n : Nat) (s : zS) (l : List Int) (g z : Int), d + i = min k (lit c).length → d < n → PC s l g z → l.length + d ≤ 1600 →
    ∃ s', f72_2 n c (zi k) (zi i) s = some s' ∧ PC s' (l ++ ((lit c).take k).drop i) g z ∧ fr [13, 14] [] s s' := by
  have hs := lit_small hc
  intro d
  induction d with
  | zero =>
    intro i n s l g z hd hn hP hl
    obtain ⟨n, rfl⟩ : ∃ k, n = k + 1 := ⟨n - 1, by omega⟩
    refine ⟨s, ?_, ?_, fr.refl⟩
    · show b72_2 (f72_2 n) _ _ _ _ = _
      unfold b72_2 r265
      have e : zlen c = zi (lit c).length := by
        unfold zlen
        rw [lit_len]
      rw [e]
      by_cases q : k > (lit c).length
      · rw [if_pos (show zi (k : Int) > zi (lit c).length from zgt (by omega)), if_pos (zge (by omega))]
      · rw [if_neg (show ¬ zi (k : Int) > zi (lit c).length from zngt (by omega)), if_pos (zge (by omega))]
    · rw [List.drop_eq_nil_of_le (by rw [List.length_take]; omega), List.append_nil]
      exact hP
  | succ d ih =>
    intro i n s l g z hd hn hP hl
    obtain ⟨n, rfl⟩ : ∃ k, n = k + 1 := ⟨n - 1, by omega⟩
    have hi : i < (lit c).length := by omega
    have hv := lit_asc hc _ (List.getElem_mem hi)
    obtain ⟨s1, a1, a2, a3⟩ := hP.add (by omega) (b := (lit c)[i]) (by omega) (by omega)
    obtain ⟨s', b1, b2, b3⟩ := ih (i + 1) n s1 (l ++ [(lit c)[i]]) g z (by omega) (by omega) a2 (by rw [List.length_append]; show l.length + 1 + d ≤ 1600; omega)
    refine ⟨s', ?_, ?_, a3.trans b3⟩
    · show b72_2 (f72_2 n) _ _ _ _ = _
      unfold b72_2 r265
      have e : zlen c = zi (lit c).length := by
        unfold zlen
        rw [lit_len]
      have e2 : zlenN c = (lit c).length := (lit_len c).symm
      rw [e, e2]
      by_cases q : k > (lit c).length
      · rw [if_pos (show zi (k : Int) > zi (lit c).length from zgt (by omega)), if_neg (znge (by omega)), if_pos (zi_ix (by omega) (by omega) (by omega)), zchr_eq hi (by omega), a1, zb0_mk, zi_add]
        exact b1
      · rw [if_neg (show ¬ zi (k : Int) > zi (lit c).length from zngt (by omega)), if_neg (znge (by omega)), if_pos (zi_ix (by omega) (by omega) (by omega)), zchr_eq hi (by omega), a1, zb0_mk, zi_add]
        exact b1
    · have hd2 : ((lit c).take k).drop i = (lit c)[i] :: ((lit c).take k).drop (i + 1) := by
        rw [List.drop_eq_getElem_cons (by rw [List.length_take]; omega), List.getElem_take]
      rw [hd2]
      rw [List.append_assoc] at b2
      exact b2
theorem PC.first {s : zS} {l : List Int} {g z : Int} (h : PC s l g z) {c : Nat} (hc : c < 78) {k : Nat} (hk : k ≤ 2000) (hl : l.length + (lit c).length ≤ 1600) : ∃ s', f72 c (zi k) s = some s' ∧ PC s' (l ++ (lit c).take k) g z ∧ fr [13, 14] [] s s' := by
  have hs := lit_small hc
  exact f72_loop hc hk (min k (lit c).length) 0 zF s l g z (by omega) (by unfold zF; omega) h (by omega)
theorem PC.all {s : zS} {l : List Int} {g z : Int} (h : PC s l g z) {c : Nat} (hc : c < 78) (hl : l.length + (lit c).length ≤ 1600) : ∃ s', f71 c s = some s' ∧ PC s' (l ++ lit c) g z ∧ fr [13, 14] [] s s' := by
  have hs := lit_small hc
  obtain ⟨s', a1, a2, a3⟩ := h.first hc (k := (lit c).length) (by omega) hl
  rw [List.take_length] at a2
  refine ⟨s', ?_, a2, a3⟩
  unfold f71
  have e : zlen c = zi (lit c).length := by
    unfold zlen
    rw [lit_len]
  rw [e, a1]
  rfl
theorem f176_loop {c : Nat} (hc : c < 78) : ∀ (d i n : Nat) (s : zS) (l : List Int) (w : Int), d + i = (lit c).length → d < n → MD s l w → l.length + d ≤ 12000 →
    ∃ s', f176_2 n c (zi i) s = some s' ∧ MD s' (l ++ (lit c).drop i) (w + d) ∧ fr [39] [30, 31] s s' := by
  have hs := lit_small hc
  intro d
  induction d with
  | zero =>
    intro i n s l w hd hn hP hl
    obtain ⟨n, rfl⟩ : ∃ k, n = k + 1 := ⟨n - 1, by omega⟩
    refine ⟨s, ?_, ?_, fr.refl⟩
    · show b176_2 (f176_2 n) _ _ _ = _
      unfold b176_2
      have e : zlen c = zi (lit c).length := by
        unfold zlen
        rw [lit_len]
      rw [e, if_pos (zge (by omega))]
    · rw [List.drop_eq_nil_of_le (by omega), List.append_nil]
      have e0 : w + ((0 : Nat) : Int) = w := by omega
      rw [e0]
      exact hP
  | succ d ih =>
    intro i n s l w hd hn hP hl
    obtain ⟨n, rfl⟩ : ∃ k, n = k + 1 := ⟨n - 1, by omega⟩
    have hi : i < (lit c).length := by omega
    have hv := lit_asc hc _ (List.getElem_mem hi)
    obtain ⟨s1, a1, a2, a3⟩ := hP.add (by omega) (b := (lit c)[i]) (by omega) (by omega)
    obtain ⟨s', b1, b2, b3⟩ := ih (i + 1) n s1 (l ++ [(lit c)[i]]) (w + 1) (by omega) (by omega) a2 (by rw [List.length_append]; show l.length + 1 + d ≤ 12000; omega)
    refine ⟨s', ?_, ?_, a3.trans b3⟩
    · show b176_2 (f176_2 n) _ _ _ = _
      unfold b176_2
      have e : zlen c = zi (lit c).length := by
        unfold zlen
        rw [lit_len]
      have e2 : zlenN c = (lit c).length := (lit_len c).symm
      rw [e, e2, if_neg (znge (by omega)), if_pos (zi_ix (by omega) (by omega) (by omega)), zchr_eq hi (by omega), a1, zb0_mk, zi_add]
      exact b1
    · rw [List.drop_eq_getElem_cons hi]
      rw [List.append_assoc] at b2
      have e1 : w + 1 + (d : Int) = w + ((d + 1 : Nat) : Int) := by omega
      rw [e1] at b2
      exact b2
theorem MD.say {s : zS} {l : List Int} {w : Int} (h : MD s l w) {c : Nat} (hc : c < 78) (hl : l.length ≤ 11000) : ∃ s', f176 c s = some s' ∧ MD s' (l ++ lit c) (w + (lit c).length) ∧ fr [39] [30, 31] s s' := by
  have hs := lit_small hc
  exact f176_loop hc (lit c).length 0 zF s l w (by omega) (by unfold zF; omega) h (by omega)
/-! the numbers of an int's digits: N / 10^k % 10 -/
def ds (N : Nat) : Nat → List Int
  | 0 => []
  | k + 1 => (48 + (N / 10 ^ k % 10 : Nat) : Int) :: ds N k
theorem ds_len (N : Nat) : ∀ k, (ds N k).length = k
  | 0 => rfl
  | k + 1 => congrArg (· + 1) (ds_len N k)
theorem ds_asc (N : Nat) : ∀ k, asc (ds N k)
  | 0 => fun v hv => by cases hv
  | k + 1 => by
    intro v hv
    rcases List.mem_cons.mp hv with rfl | hv
    · omega
    · exact ds_asc N k v hv
theorem ds_pad {N : Nat} {n : Nat} (h : N < 10 ^ n) : ∀ d, ds N (n + d) = List.replicate d 48 ++ ds N n
  | 0 => rfl
  | d + 1 => by
    show (48 + (N / 10 ^ (n + d) % 10 : Nat) : Int) :: ds N (n + d) = _
    have : N / 10 ^ (n + d) = 0 := Nat.div_eq_of_lt (Nat.lt_of_lt_of_le h (Nat.pow_le_pow_right (by decide) (by omega)))
    rw [this, ds_pad h d]
    rfl
