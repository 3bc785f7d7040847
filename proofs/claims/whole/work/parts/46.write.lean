/-! writing the piece out: capitals, fill, room -/
def up (c : Int) : Int := if 97 ≤ c ∧ c ≤ 122 then c - 32 else c
def upL (cap : Int) (l : List Int) : List Int := if cap = 1 then l.map up else l
theorem up_byt {c : Int} (h : -128 ≤ c ∧ c ≤ 127) : -128 ≤ up c ∧ up c ≤ 127 := by
  unfold up
  split <;> omega
theorem upL_len (cap : Int) (l : List Int) : (upL cap l).length = l.length := by
  unfold upL
  split
  · exact List.length_map ..
  · rfl
theorem upL_byt {cap : Int} {l : List Int} (h : byt l) : byt (upL cap l) := by
  unfold upL
  split
  · intro v hv
    obtain ⟨c, hc, rfl⟩ := List.mem_map.mp hv
    exact up_byt (h c hc)
  · exact h
theorem byt.append {a b : List Int} (h : byt a) (g : byt b) : byt (a ++ b) := by
  intro v hv
  rcases List.mem_append.mp hv with q | q
  · exact h v q
  · exact g v q
theorem isL.set {f : Nat → Int32} {l : List Int} (h : isL f l) {i : Nat} (hi : i < l.length) {v : Int} : isL (upd f i (zi v)) (l.set i v) := by
  intro j w hj
  by_cases q : j = i
  · subst q
    rw [List.getElem?_set_self hi] at hj
    injection hj with hj
    rw [← hj, upd_eq]
  · rw [List.getElem?_set_ne (fun e => q e.symm)] at hj
    rw [upd_ne q]
    exact h j w hj
theorem f84_loop {g z : Int} : ∀ (d i n : Nat) (s : zS) (a b : List Int), d = b.length → a.length = i → d < n → byt b → a.length + b.length ≤ 1600 → PC s (a ++ b) g z →
    ∃ s', f84_2 n (zi i) s = some s' ∧ PC s' (a ++ b.map up) g z ∧ fr [13, 14] [] s s' := by
  intro d
  induction d with
  | zero =>
    intro i n s a b hd ha hn hb hl hP
    obtain ⟨n, rfl⟩ : ∃ k, n = k + 1 := ⟨n - 1, by omega⟩
    have hb0 : b = [] := List.eq_nil_of_length_eq_zero hd.symm
    subst hb0
    rw [List.append_nil] at hP
    refine ⟨s, ?_, hP.nil, fr.refl⟩
    show b84_2 (f84_2 n) _ _ = _
    unfold b84_2
    rw [hP.1, if_pos (zge (by omega))]
  | succ d ih =>
    intro i n s a b hd ha hn hb hl hP
    obtain ⟨n, rfl⟩ : ∃ k, n = k + 1 := ⟨n - 1, by omega⟩
    cases b with
    | nil => cases hd
    | cons c r =>
      have hc := hb c List.mem_cons_self
      have hlen : (a ++ c :: r).length = a.length + (r.length + 1) := by rw [List.length_append, List.length_cons]
      have hl' : a.length + (r.length + 1) ≤ 1600 := by rw [List.length_cons] at hl; exact hl
      have hi : i < (a ++ c :: r).length := by rw [hlen]; omega
      have hg : (a ++ c :: r)[i] = c := by
        subst ha
        rw [List.getElem_append_right (Nat.le_refl _)]
        simp
      have hrl : d = r.length := by rw [List.length_cons] at hd; omega
      have e14 : s.1 14 (zi (i : Int)).toNatClampNeg = zi c := by rw [zi_toNat (by omega), hP.2.1.get hi, hg]
      have key : ∀ s1 : zS, fr [13, 14] [] s s1 → PC s1 ((a ++ [up c]) ++ r) g z → ∃ s', f84_2 n (zi i + zi 1) s1 = some s' ∧ PC s' (a ++ (c :: r).map up) g z ∧ fr [13, 14] [] s s' := by
        intro s1 hf hP1
        obtain ⟨s', q1, q2, q3⟩ := ih (i + 1) n s1 (a ++ [up c]) r hrl (by rw [List.length_append]; show a.length + 1 = i + 1; omega) (by omega) (fun v hv => hb v (List.mem_cons_of_mem _ hv)) (by rw [List.length_append]; show a.length + 1 + r.length ≤ 1600; omega) hP1
        refine ⟨s', ?_, ?_, hf.trans q3⟩
        · rw [zi_add]
          exact q1
        · rw [List.append_assoc] at q2
          exact q2
      have e0 : f84_2 (n + 1) (zi i) s = b84_2 (f84_2 n) (zi i) s := rfl
      rw [e0]
      unfold b84_2
      have m1 : mIx (zi i) 1600 := zi_ix (by omega) (by omega) (by omega)
      rw [hP.1, hlen, if_neg (znge (by omega)), if_pos m1, e14]
      by_cases q1 : c < 97
      · rw [if_pos (zlt (by omega))]
        refine key s fr.refl ?_
        have : up c = c := if_neg (by omega)
        rw [this, List.append_assoc]
        exact hP
      · rw [if_neg (znlt (by omega)), if_pos m1]
        by_cases q2 : c > 122
        · rw [if_pos (zgt (by omega))]
          refine key s fr.refl ?_
          have : up c = c := if_neg (by omega)
          rw [this, List.append_assoc]
          exact hP
        · rw [if_neg (zngt (by omega)), if_pos m1, if_pos m1, zi_add c (-32), zI2B_2, zI2B_id (by omega) (by omega), zi_toNat (by omega)]
          have hu : up c = c + -32 := by
            unfold up
            rw [if_pos (by omega)]
            omega
          refine key _ (fr.refl.sB rfl) ⟨?_, ?_, hP.2.2.1, hP.2.2.2⟩
          · show s.1 13 1 = _
            rw [hP.1, hlen, List.length_append, List.length_append]
            congr 1
            show ((a.length + (r.length + 1) : Nat) : Int) = ((a.length + 1 + r.length : Nat) : Int)
            omega
          · have h5 := hP.2.1.set hi (v := c + -32)
            have h6 : (a ++ c :: r).set i (c + -32) = a ++ [up c] ++ r := by
              subst ha
              rw [hu]
              simp
            rw [h6] at h5
            exact h5
theorem PC.capitals {s : zS} {l : List Int} {g z : Int} (h : PC s l g z) (hb : byt l) (hl : l.length ≤ 1600) : ∃ s', f84 s = some s' ∧ PC s' (l.map up) g z ∧ fr [13, 14] [] s s' :=
  f84_loop l.length 0 zF s [] l rfl rfl (by unfold zF; omega) hb (by show 0 + l.length ≤ 1600; omega) h
/-- bytes of the piece, copied to the output -/
theorem f20_loop {b : Int} (h1 : -128 ≤ b) (h2 : b ≤ 127) {m : Nat} (hm : m ≤ 6000) : ∀ (d i n : Nat) (s : zS) (o : List Int), d + i = m → d < n → LN 5 s o → o.length + d ≤ 6000 →
    ∃ s', f20_18 5 n (zi b) (zi m) (zi i) s = some s' ∧ LN 5 s' (o ++ List.replicate d b) ∧ fr [5, 6] [] s s' := by
  intro d
  induction d with
  | zero =>
    intro i n s o hd hn hL hl
    obtain ⟨n, rfl⟩ : ∃ k, n = k + 1 := ⟨n - 1, by omega⟩
    refine ⟨s, ?_, by rw [List.replicate_zero, List.append_nil]; exact hL, fr.refl⟩
    show b20_18 5 (f20_18 5 n) _ _ _ _ = _
    unfold b20_18
    rw [if_pos (zge (by omega))]
  | succ d ih =>
    intro i n s o hd hn hL hl
    obtain ⟨n, rfl⟩ : ∃ k, n = k + 1 := ⟨n - 1, by omega⟩
    obtain ⟨s1, a1, a2, a3⟩ := hL.add (show o.length < zLen 5 by show o.length < 6000; omega) b
    rw [bmod_id h1 h2] at a2
    obtain ⟨s', b1, b2, b3⟩ := ih (i + 1) n s1 (o ++ [b]) (by omega) (by omega) a2 (by rw [List.length_append]; show o.length + 1 + d ≤ 6000; omega)
    refine ⟨s', ?_, ?_, fr.trans (a3.up rfl rfl) b3⟩
    · show b20_18 5 (f20_18 5 n) _ _ _ _ = _
      unfold b20_18
      rw [if_neg (znge (by omega)), a1, zb0_mk, zi_add]
      exact b1
    · rw [List.append_assoc] at b2
      exact b2
theorem f85_105_loop {l : List Int} (hb : byt l) {g z : Int} (hl16 : l.length ≤ 1600) {x5 : Int32} : ∀ (d i n : Nat) (s : zS) (o : List Int), d + i = l.length → d < n → LN 5 s o → PC s l g z → o.length + d ≤ 6000 →
    ∃ s', f85_105 n x5 (zi i) s = some (zi 1, s') ∧ LN 5 s' (o ++ l.drop i) ∧ fr [5, 6] [] s s' := by
  intro d
  induction d with
  | zero =>
    intro i n s o hd hn hL hP hl
    obtain ⟨n, rfl⟩ : ∃ k, n = k + 1 := ⟨n - 1, by omega⟩
    refine ⟨s, ?_, by rw [List.drop_eq_nil_of_le (by omega), List.append_nil]; exact hL, fr.refl⟩
    show b85_105 (f85_105 n) _ _ _ = _
    unfold b85_105
    rw [hP.1, if_pos (zge (by omega))]
  | succ d ih =>
    intro i n s o hd hn hL hP hl
    obtain ⟨n, rfl⟩ : ∃ k, n = k + 1 := ⟨n - 1, by omega⟩
    have hi : i < l.length := by omega
    have hv := hb _ (List.getElem_mem hi)
    obtain ⟨s1, a1, a2, a3⟩ := hL.add (show o.length < zLen 5 by show o.length < 6000; omega) l[i]
    rw [bmod_id hv.1 hv.2] at a2
    obtain ⟨s', b1, b2, b3⟩ := ih (i + 1) n s1 (o ++ [l[i]]) (by omega) (by omega) a2 (hP.mv a3 rfl rfl) (by rw [List.length_append]; show o.length + 1 + d ≤ 6000; omega)
    refine ⟨s', ?_, ?_, fr.trans (a3.up rfl rfl) b3⟩
    · show b85_105 (f85_105 n) _ _ _ = _
      unfold b85_105
      rw [hP.1, if_neg (znge (by omega)), if_pos (zi_ix (by omega) (by omega) (by omega)), zi_toNat (by omega), hP.2.1.get hi, a1, zb0_mk, zi_add]
      exact b1
    · rw [List.append_assoc] at b2
      rw [List.drop_eq_getElem_cons hi]
      exact b2
/-- the piece with its fill at k -/
def fillL (l : List Int) (k : Nat) (c : Int) (n : Nat) : List Int := l.take k ++ (List.replicate n c ++ l.drop k)
theorem f85_57_loop {l : List Int} (hb : byt l) {g z : Int} (hl16 : l.length ≤ 1600) {m k : Nat} (hm : m ≤ 6000) (hk : k ≤ l.length) : ∀ (d i n : Nat) (s : zS) (o : List Int), d + i = k → d < n → LN 5 s o → PC s l g z → (z = -1 ∨ 0 ≤ z ∧ z ≤ 2000) → o.length + (l.length - i) + m ≤ 6000 →
    ∃ s', f85_57 n (zi m) (zi k) (zi i) s = some (zi 1, s') ∧ LN 5 s' (o ++ ((l.take k).drop i ++ (List.replicate m (if z < 0 then 32 else 48) ++ l.drop k))) ∧ fr [5, 6] [] s s' := by
  intro d
  induction d with
  | zero =>
    intro i n s o hd hn hL hP hz hl
    obtain ⟨n, rfl⟩ : ∃ k, n = k + 1 := ⟨n - 1, by omega⟩
    have hik : i = k := by omega
    subst hik
    rw [List.drop_eq_nil_of_le (by rw [List.length_take]; omega), List.nil_append]
    have e0 : f85_57 (n + 1) (zi m) (zi i) (zi i) s = f85_96 (zi m) (zi i) (zi (if z < 0 then 32 else 48)) s := by
      show b85_57 (f85_57 n) _ _ _ _ = _
      unfold b85_57
      rw [if_pos (zge (by omega)), hP.2.2.2]
      by_cases q : z < 0
      · rw [if_pos (zlt (by omega)), if_pos q]
      · rw [if_neg (znlt (by omega)), if_neg q]
    have hc : -128 ≤ (if z < 0 then (32 : Int) else 48) ∧ (if z < 0 then (32 : Int) else 48) ≤ 127 := by split <;> omega
    rw [e0]
    generalize (if z < 0 then (32 : Int) else 48) = c at *
    obtain ⟨s1, a1, a2, a3⟩ := f20_loop hc.1 hc.2 hm m 0 zF s o (by omega) (by unfold zF; omega) hL (by omega)
    obtain ⟨s2, b1, b2, b3⟩ := f85_105_loop hb hl16 (x5 := zi i) (l.length - i) i zF s1 (o ++ List.replicate m c) (by omega) (by unfold zF; omega) a2 (hP.mv a3 rfl rfl) (by rw [List.length_append, List.length_replicate]; omega)
    refine ⟨s2, ?_, by rw [List.append_assoc] at b2; exact b2, a3.trans b3⟩
    unfold f85_96 f20
    have em : r265 (zi m) (zi (zLen 5) - s.1 5 1) s = zi m := by
      rw [hL.1, zi_sub]
      show r265 (zi m) (zi ((6000 : Nat) - (o.length : Int))) s = _
      unfold r265
      rw [if_neg (zngt (by omega))]
    rw [em]
    show zb0 (f20_18 5 zF (zi c) (zi m) (zi (0 : Nat)) s) _ = _
    rw [a1, zb0_mk]
    exact b1
  | succ d ih =>
    intro i n s o hd hn hL hP hz hl
    obtain ⟨n, rfl⟩ : ∃ k, n = k + 1 := ⟨n - 1, by omega⟩
    have hi : i < l.length := by omega
    have hv := hb _ (List.getElem_mem hi)
    obtain ⟨s1, a1, a2, a3⟩ := hL.add (show o.length < zLen 5 by show o.length < 6000; omega) l[i]
    rw [bmod_id hv.1 hv.2] at a2
    obtain ⟨s', b1, b2, b3⟩ := ih (i + 1) n s1 (o ++ [l[i]]) (by omega) (by omega) a2 (hP.mv a3 rfl rfl) hz (by rw [List.length_append]; show o.length + 1 + (l.length - (i + 1)) + m ≤ 6000; omega)
    refine ⟨s', ?_, ?_, fr.trans (a3.up rfl rfl) b3⟩
    · show b85_57 (f85_57 n) _ _ _ _ = _
      unfold b85_57
      rw [if_neg (znge (by omega)), if_pos (zi_ix (by omega) (by omega) (by omega)), zi_toNat (by omega), hP.2.1.get hi, a1, zb0_mk, zi_add]
      exact b1
    · have hd2 : (l.take k).drop i = l[i] :: (l.take k).drop (i + 1) := by
        rw [List.drop_eq_getElem_cons (by rw [List.length_take]; omega), List.getElem_take]
      rw [hd2]
      rw [List.append_assoc] at b2
      exact b2
/-- where the fill goes -/
def fillAt (l : List Int) (z : Int) (left : Int) : Nat := if left = 1 then l.length else z.toNat
theorem f85_eq {s : zS} {l o : List Int} {g z W left : Int} (hP : PC s l g z) (hL : LN 5 s o) (hb : byt l) (hl16 : l.length ≤ 1600) (hg : 0 ≤ g ∧ g ≤ l.length) (hz : z = -1 ∨ 0 ≤ z ∧ z ≤ l.length) (hW : 0 ≤ W) (hW2 : W ≤ 2000) (hlf : left = 0 ∨ left = 1) :
    ((o.length : Int) + l.length + (W - (l.length - g)).toNat ≤ 6000 → ∃ s', f85 (zi W) (zi left) s = some (zi 1, s') ∧ LN 5 s' (o ++ fillL l (fillAt l z left) (if z < 0 then 32 else 48) (W - (l.length - g)).toNat) ∧ fr [5, 6] [] s s') ∧
    (¬ (o.length : Int) + l.length + (W - (l.length - g)).toNat ≤ 6000 → f85 (zi W) (zi left) s = some (zi 0, s)) := by
  have ho : o.length ≤ 6000 := hL.2.2
  have n01 : ¬ zi 1 = zi 0 := zne (by omega)
  have em : r264 (zi W - (s.1 13 1 - s.1 13 2)) (zi 0) s = zi ((W - (l.length - g)).toNat : Nat) := by
    rw [hP.1, hP.2.2.1, zi_sub, zi_sub]
    unfold r264
    by_cases q : W - ((l.length : Int) - g) < 0
    · rw [if_pos (zlt (by omega))]
      congr 1
      omega
    · rw [if_neg (znlt (by omega))]
      congr 1
      omega
  have ef : ∀ m : Nat, m ≤ 2000 → r18 5 (s.1 13 1 + zi m) s = if (o.length : Int) + l.length + m ≤ 6000 then zi 1 else zi 0 := by
    intro m hm
    unfold r18
    rw [hL.1, hP.1, zi_sub, zi_add]
    show (if zi ((l.length : Int) + m) > zi ((6000 : Nat) - (o.length : Int)) then zi 0 else zi 1) = _
    by_cases q : (o.length : Int) + l.length + m ≤ 6000
    · rw [if_neg (zngt (by omega)), if_pos q]
    · rw [if_pos (zgt (by omega)), if_neg q]
  have ez : r264 (s.1 13 3) (zi 0) s = zi (z.toNat : Nat) := by
    rw [hP.2.2.2]
    unfold r264
    by_cases q : z < 0
    · rw [if_pos (zlt (by omega))]
      congr 1
      omega
    · rw [if_neg (znlt (by omega))]
      congr 1
      omega
  unfold f85
  rw [em, ef _ (by omega)]
  refine ⟨fun h => ?_, fun h => ?_⟩
  · rw [if_pos h, if_pos n01, ez, hP.1]
    rcases hlf with rfl | rfl
    · rw [if_pos rfl]
      have hfa : fillAt l z 0 = z.toNat := if_neg (by decide)
      rw [hfa]
      obtain ⟨s', q1, q2, q3⟩ := f85_57_loop hb hl16 (m := (W - (l.length - g)).toNat) (k := z.toNat) (by omega) (by omega) z.toNat 0 zF s o (by omega) (by unfold zF; omega) hL hP (by omega) (by omega)
      exact ⟨s', q1, q2, q3⟩
    · rw [if_neg n01]
      have hfa : fillAt l z 1 = l.length := if_pos rfl
      rw [hfa]
      obtain ⟨s', q1, q2, q3⟩ := f85_57_loop hb hl16 (m := (W - (l.length - g)).toNat) (k := l.length) (by omega) (Nat.le_refl _) l.length 0 zF s o (by omega) (by unfold zF; omega) hL hP (by omega) (by omega)
      exact ⟨s', q1, q2, q3⟩
  · rw [if_neg h, if_neg (not_not_intro rfl)]
