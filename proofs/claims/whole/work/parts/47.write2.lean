/-! the reference writes out -/
theorem MO.add {s : zS} {o : List Int} (h : MN 6 27 s o) (hl : o.length < 10000) {b : Int} {w : Int32} (hw : w = zi b) : MN 6 27 (setB (setI s 24 6 (zi (o.length + 1 : Nat))) 27 o.length w) (o ++ [b]) := by
  refine ⟨?_, h.2.snoc rfl hw⟩
  rw [List.length_append]
  rfl
theorem f204_244_loop {m : Nat} (hm : m ≤ 6000) : ∀ (d i n : Nat) (s : zS) (o : List Int), d + i = m → d < n → MN 6 27 s o → o.length + d ≤ 6000 →
    ∃ s', f204_244 n (zi m) (zi i) s = some (zi 0, s') ∧ MN 6 27 s' (o ++ List.replicate d 32) ∧ fr [27] [6] s s' := by
  intro d
  induction d with
  | zero =>
    intro i n s o hd hn hL hl
    obtain ⟨n, rfl⟩ : ∃ k, n = k + 1 := ⟨n - 1, by omega⟩
    refine ⟨s, ?_, by rw [List.replicate_zero, List.append_nil]; exact hL, fr.refl⟩
    show b204_244 (f204_244 n) _ _ _ = _
    unfold b204_244
    rw [if_pos (zge (by omega))]
  | succ d ih =>
    intro i n s o hd hn hL hl
    obtain ⟨n, rfl⟩ : ∃ k, n = k + 1 := ⟨n - 1, by omega⟩
    obtain ⟨s', b1, b2, b3⟩ := ih (i + 1) n _ (o ++ [32]) (by omega) (by omega) (MO.add hL (by omega) (b := 32) (w := zI2B (zi 32)) (by decide)) (by rw [List.length_append]; show o.length + 1 + d ≤ 6000; omega)
    refine ⟨s', ?_, ?_, fr.trans ((fr.refl.sI (.inr ⟨rfl, rfl⟩)).sB rfl) b3⟩
    · show b204_244 (f204_244 n) _ _ _ = _
      unfold b204_244
      rw [hL.1, if_neg (znge (by omega)), if_pos (zi_ix (by omega) (by omega) (by omega)), zi_add, zi_add, zi_toNat (by omega)]
      exact b1
    · rw [List.append_assoc] at b2
      exact b2
theorem f204_161_loop {m : List Int} (hb : byt m) (hm : m.length ≤ 6000) {F : Int32} {cap : Int} (hc : cap = 0 ∨ cap = 1) {B : Nat} (hB : B ≤ 2000) {w : Int} : ∀ (d i n : Nat) (s : zS) (o : List Int), d + i = m.length → d < n → MN 6 27 s o → MD s m w → s.1 24 15 = F → s.1 24 22 = zi cap → o.length + d + B ≤ 6000 →
    ∃ s', f204_161 n (zi B) (zi i) s = some (zi 0, s') ∧ MN 6 27 s' (o ++ (upL cap (m.drop i) ++ (if hasF F 1 then List.replicate B 32 else []))) ∧ fr [27] [6] s s' := by
  have n01 : ¬ zi 1 = zi 0 := zne (by omega)
  intro d
  induction d with
  | zero =>
    intro i n s o hd hn hL hM h15 h22 hl
    obtain ⟨n, rfl⟩ : ∃ k, n = k + 1 := ⟨n - 1, by omega⟩
    have e1 : upL cap (m.drop i) = [] := by
      rw [List.drop_eq_nil_of_le (by omega)]
      unfold upL
      split <;> rfl
    rw [e1, List.nil_append]
    have e0 : f204_161 (n + 1) (zi B) (zi i) s = b204_161 (f204_161 n) (zi B) (zi i) s := rfl
    rw [e0]
    unfold b204_161
    rw [hM.1, if_pos (zge (by omega)), h15]
    by_cases q : hasF F 1
    · obtain ⟨s', b1, b2, b3⟩ := f204_244_loop (m := B) (by omega) B 0 zF s o (by omega) (by unfold zF; omega) hL (by omega)
      rw [r180_1 q, if_neg n01, if_pos q]
      exact ⟨s', b1, b2, b3⟩
    · rw [r180_0 q, if_pos rfl, if_neg q, List.append_nil]
      exact ⟨s, rfl, hL, fr.refl⟩
  | succ d ih =>
    intro i n s o hd hn hL hM h15 h22 hl
    obtain ⟨n, rfl⟩ : ∃ k, n = k + 1 := ⟨n - 1, by omega⟩
    have hi : i < m.length := by omega
    have hv := hb _ (List.getElem_mem hi)
    have hu := up_byt hv
    have e39 : s.1 39 i = zi m[i] := hM.2.1.get hi
    -- one byte c is put
    have key : ∀ c : Int, -128 ≤ c → c ≤ 127 → ([c] = upL cap [m[i]]) → ∃ s', f204_223 (f204_161 n) (zi B) (zi i) (s.1 24 6) (zi c) (setI s 24 6 ((s.1 24 6) + (zi 1))) = some (zi 0, s') ∧ MN 6 27 s' (o ++ (upL cap (m.drop i) ++ (if hasF F 1 then List.replicate B 32 else []))) ∧ fr [27] [6] s s' := by
      intro c h1 h2 h3
      obtain ⟨s', b1, b2, b3⟩ := ih (i + 1) n _ (o ++ [c]) (by omega) (by omega) (MO.add hL (by omega) (b := c) (w := zi c) rfl) hM h15 h22 (by rw [List.length_append]; show o.length + 1 + d + B ≤ 6000; omega)
      refine ⟨s', ?_, ?_, fr.trans ((fr.refl.sI (.inr ⟨rfl, rfl⟩)).sB rfl) b3⟩
      · unfold f204_223
        rw [hL.1, if_pos (zi_ix (by omega) (by omega) (by omega)), zi_add, zi_add, zi_toNat (by omega), zI2B_2, zI2B_id h1 (by omega)]
        exact b1
      · have e5 : upL cap (m.drop i) = [c] ++ upL cap (m.drop (i + 1)) := by
          rw [List.drop_eq_getElem_cons hi, h3]
          unfold upL
          split <;> rfl
        rw [e5]
        rw [List.append_assoc] at b2
        rw [List.append_assoc]
        exact b2
    have e0 : f204_161 (n + 1) (zi B) (zi i) s = b204_161 (f204_161 n) (zi B) (zi i) s := rfl
    rw [e0]
    unfold b204_161
    rw [hM.1, if_neg (znge (by omega)), if_pos (zi_ix (by omega) (by omega) (by omega)), zi_toNat (by omega), e39, h22]
    rcases hc with rfl | rfl
    · rw [if_pos rfl]
      exact key m[i] hv.1 hv.2 rfl
    · rw [if_neg n01]
      have e6 : upL 1 [m[i]] = [up m[i]] := rfl
      by_cases q1 : m[i] < 97
      · rw [if_pos (zlt (by omega))]
        refine key m[i] hv.1 hv.2 ?_
        rw [e6, show up m[i] = m[i] from if_neg (by omega)]
      · rw [if_neg (znlt (by omega))]
        by_cases q2 : m[i] > 122
        · rw [if_pos (zgt (by omega))]
          refine key m[i] hv.1 hv.2 ?_
          rw [e6, show up m[i] = m[i] from if_neg (by omega)]
        · rw [if_neg (zngt (by omega)), zi_sub]
          refine key (m[i] - 32) (by omega) (by omega) ?_
          rw [e6, show up m[i] = m[i] - 32 from if_pos (by omega)]
theorem f204_161_loop' {m : List Int} (hb : byt m) (hm : m.length ≤ 6000) {F : Int32} (hF : ¬ hasF F 1) {cap : Int} (hc : cap = 0 ∨ cap = 1) {B : Nat} {w : Int} : ∀ (d i n : Nat) (s : zS) (o : List Int), d + i = m.length → d < n → MN 6 27 s o → MD s m w → s.1 24 15 = F → s.1 24 22 = zi cap → o.length + d ≤ 6000 →
    ∃ s', f204_161 n (zi B) (zi i) s = some (zi 0, s') ∧ MN 6 27 s' (o ++ upL cap (m.drop i)) ∧ fr [27] [6] s s' := by
  have n01 : ¬ zi 1 = zi 0 := zne (by omega)
  intro d
  induction d with
  | zero =>
    intro i n s o hd hn hL hM h15 h22 hl
    obtain ⟨n, rfl⟩ : ∃ k, n = k + 1 := ⟨n - 1, by omega⟩
    have e1 : upL cap (m.drop i) = [] := by
      rw [List.drop_eq_nil_of_le (by omega)]
      unfold upL
      split <;> rfl
    rw [e1, List.append_nil]
    have e0 : f204_161 (n + 1) (zi B) (zi i) s = b204_161 (f204_161 n) (zi B) (zi i) s := rfl
    rw [e0]
    unfold b204_161
    rw [hM.1, if_pos (zge (by omega)), h15]
    rw [r180_0 hF, if_pos rfl]
    exact ⟨s, rfl, hL, fr.refl⟩
  | succ d ih =>
    intro i n s o hd hn hL hM h15 h22 hl
    obtain ⟨n, rfl⟩ : ∃ k, n = k + 1 := ⟨n - 1, by omega⟩
    have hi : i < m.length := by omega
    have hv := hb _ (List.getElem_mem hi)
    have hu := up_byt hv
    have e39 : s.1 39 i = zi m[i] := hM.2.1.get hi
    -- one byte c is put
    have key : ∀ c : Int, -128 ≤ c → c ≤ 127 → ([c] = upL cap [m[i]]) → ∃ s', f204_223 (f204_161 n) (zi B) (zi i) (s.1 24 6) (zi c) (setI s 24 6 ((s.1 24 6) + (zi 1))) = some (zi 0, s') ∧ MN 6 27 s' (o ++ upL cap (m.drop i)) ∧ fr [27] [6] s s' := by
      intro c h1 h2 h3
      obtain ⟨s', b1, b2, b3⟩ := ih (i + 1) n _ (o ++ [c]) (by omega) (by omega) (MO.add hL (by omega) (b := c) (w := zi c) rfl) hM h15 h22 (by rw [List.length_append]; show o.length + 1 + d ≤ 6000; omega)
      refine ⟨s', ?_, ?_, fr.trans ((fr.refl.sI (.inr ⟨rfl, rfl⟩)).sB rfl) b3⟩
      · unfold f204_223
        rw [hL.1, if_pos (zi_ix (by omega) (by omega) (by omega)), zi_add, zi_add, zi_toNat (by omega), zI2B_2, zI2B_id h1 (by omega)]
        exact b1
      · have e5 : upL cap (m.drop i) = [c] ++ upL cap (m.drop (i + 1)) := by
          rw [List.drop_eq_getElem_cons hi, h3]
          unfold upL
          split <;> rfl
        rw [e5]
        rw [List.append_assoc] at b2
        exact b2
    have e0 : f204_161 (n + 1) (zi B) (zi i) s = b204_161 (f204_161 n) (zi B) (zi i) s := rfl
    rw [e0]
    unfold b204_161
    rw [hM.1, if_neg (znge (by omega)), if_pos (zi_ix (by omega) (by omega) (by omega)), zi_toNat (by omega), e39, h22]
    rcases hc with rfl | rfl
    · rw [if_pos rfl]
      exact key m[i] hv.1 hv.2 rfl
    · rw [if_neg n01]
      have e6 : upL 1 [m[i]] = [up m[i]] := rfl
      by_cases q1 : m[i] < 97
      · rw [if_pos (zlt (by omega))]
        refine key m[i] hv.1 hv.2 ?_
        rw [e6, show up m[i] = m[i] from if_neg (by omega)]
      · rw [if_neg (znlt (by omega))]
        by_cases q2 : m[i] > 122
        · rw [if_pos (zgt (by omega))]
          refine key m[i] hv.1 hv.2 ?_
          rw [e6, show up m[i] = m[i] from if_neg (by omega)]
        · rw [if_neg (zngt (by omega)), zi_sub]
          refine key (m[i] - 32) (by omega) (by omega) ?_
          rw [e6, show up m[i] = m[i] - 32 from if_pos (by omega)]
theorem f204_130_loop {m : List Int} (hb : byt m) (hm : m.length ≤ 6000) {F : Int32} (hF : ¬ hasF F 1) {cap : Int} (hc : cap = 0 ∨ cap = 1) {B : Nat} (hB : B ≤ 2000) {w : Int} : ∀ (d i n : Nat) (s : zS) (o : List Int), d + i = B → d < n → MN 6 27 s o → MD s m w → s.1 24 15 = F → s.1 24 22 = zi cap → o.length + d + m.length ≤ 6000 →
    ∃ s', f204_130 n (zi B) (zi i) s = some (zi 0, s') ∧ MN 6 27 s' (o ++ (List.replicate d 32 ++ upL cap m)) ∧ fr [27] [6] s s' := by
  intro d
  induction d with
  | zero =>
    intro i n s o hd hn hL hM h15 h22 hl
    obtain ⟨n, rfl⟩ : ∃ k, n = k + 1 := ⟨n - 1, by omega⟩
    -- the blanks stand already: none goes behind
    obtain ⟨s', b1, b2, b3⟩ := f204_161_loop' hb hm hF hc (B := B) (w := w) m.length 0 zF s o (by omega) (by unfold zF; omega) hL hM h15 h22 (by omega)
    refine ⟨s', ?_, ?_, b3⟩
    · show b204_130 (f204_130 n) _ _ _ = _
      unfold b204_130
      rw [if_pos (zge (by omega))]
      exact b1
    · rw [List.replicate_zero, List.nil_append]
      rw [List.drop_zero] at b2
      exact b2
  | succ d ih =>
    intro i n s o hd hn hL hM h15 h22 hl
    obtain ⟨n, rfl⟩ : ∃ k, n = k + 1 := ⟨n - 1, by omega⟩
    obtain ⟨s', b1, b2, b3⟩ := ih (i + 1) n _ (o ++ [32]) (by omega) (by omega) (MO.add hL (by omega) (b := 32) (w := zI2B (zi 32)) (by decide)) hM h15 h22 (by rw [List.length_append]; show o.length + 1 + d + m.length ≤ 6000; omega)
    refine ⟨s', ?_, ?_, fr.trans ((fr.refl.sI (.inr ⟨rfl, rfl⟩)).sB rfl) b3⟩
    · show b204_130 (f204_130 n) _ _ _ = _
      unfold b204_130
      rw [hL.1, if_neg (znge (by omega)), if_pos (zi_ix (by omega) (by omega) (by omega)), zi_add, zi_add, zi_toNat (by omega)]
      exact b1
    · rw [List.append_assoc] at b2
      exact b2
/-- the reference's end of a spec -/
theorem m204_out {s : zS} {m o : List Int} {w W cap : Int} {F : Int32} (hb : byt m) (hm : m.length ≤ 6000) (hL : MN 6 27 s o) (hM : MD s m w) (ho : o.length ≤ 6000) (h15 : s.1 24 15 = F) (h16 : s.1 24 16 = zi W) (h22 : s.1 24 22 = zi cap) (hc : cap = 0 ∨ cap = 1) (hw : 0 ≤ w ∧ w ≤ 6000) (hW : -1 ≤ W) (hW2 : W ≤ 2000) {x : Option (Int32 × zS)}
    (hx : x = (if (((s.1 24 6) + (s.1 24 30)) + (r264 (zi 0) ((s.1 24 16) - (s.1 24 31)) s)) ≤ (zi 6000) then if ¬ (r180 (s.1 24 15) (zi 1) s) = zi 0 then f204_161 zF (r264 (zi 0) ((s.1 24 16) - (s.1 24 31)) s) (zi 0) s else f204_130 zF (r264 (zi 0) ((s.1 24 16) - (s.1 24 31)) s) (zi 0) s else some (zi 11, s))) :
    (o.length + m.length + (W - w).toNat ≤ 6000 → ∃ s', x = some (zi 0, s') ∧ MN 6 27 s' (o ++ (if hasF F 1 then upL cap m ++ List.replicate (W - w).toNat 32 else List.replicate (W - w).toNat 32 ++ upL cap m)) ∧ fr [27] [6] s s') ∧
    (¬ o.length + m.length + (W - w).toNat ≤ 6000 → x = some (zi 11, s)) := by
  have n01 : ¬ zi 1 = zi 0 := zne (by omega)
  have em : r264 (zi 0) ((s.1 24 16) - (s.1 24 31)) s = zi ((W - w).toNat : Nat) := by
    rw [h16, hM.2.2, zi_sub]
    unfold r264
    by_cases q : 0 < W - w
    · rw [if_pos (zlt (by omega))]
      congr 1
      omega
    · rw [if_neg (znlt (by omega))]
      congr 1
      omega
  rw [em, hL.1, hM.1, zi_add, zi_add, h15] at hx
  refine ⟨fun h => ?_, fun h => ?_⟩
  · rw [if_pos (zle (by omega))] at hx
    by_cases q : hasF F 1
    · obtain ⟨s', b1, b2, b3⟩ := f204_161_loop hb hm (F := F) hc (B := (W - w).toNat) (by omega) (w := w) m.length 0 zF s o (by omega) (by unfold zF; omega) hL hM h15 h22 (by omega)
      rw [r180_1 q, if_pos n01] at hx
      refine ⟨s', hx.trans b1, ?_, b3⟩
      rw [List.drop_zero, if_pos q] at b2
      rw [if_pos q]
      exact b2
    · obtain ⟨s', b1, b2, b3⟩ := f204_130_loop hb hm q hc (B := (W - w).toNat) (by omega) (w := w) (W - w).toNat 0 zF s o (by omega) (by unfold zF; omega) hL hM h15 h22 (by omega)
      rw [r180_0 q, if_neg (not_not_intro rfl)] at hx
      refine ⟨s', hx.trans b1, ?_, b3⟩
      rw [if_neg q]
      exact b2
  · rw [if_neg (znle (by omega))] at hx
    exact hx
/-! the two lay the same bytes -/
/-- class: piece l, g of it going on, zeros at z; reference: m, so wide w -/
def PR (l : List Int) (g z : Int) (m : List Int) (w W : Int) (F : Int32) : Prop := byt l ∧ l.length ≤ 1600 ∧ 0 ≤ g ∧ g ≤ l.length ∧
  ((z = -1 ∧ m = l ∧ w = l.length - g) ∨ (0 ≤ z ∧ z ≤ l.length ∧ g = 0 ∧ ¬ hasF F 1 ∧ m = fillL l z.toNat 48 (W - l.length).toNat ∧ w = m.length))
theorem upL_append (cap : Int) (a b : List Int) : upL cap (a ++ b) = upL cap a ++ upL cap b := by
  unfold upL
  split
  · exact List.map_append ..
  · rfl
theorem upL_rep (cap : Int) (n : Nat) : upL cap (List.replicate n 48) = List.replicate n 48 := by
  unfold upL
  split
  · rw [List.map_replicate]
    rfl
  · rfl
theorem upL_take (cap : Int) (l : List Int) (k : Nat) : upL cap (l.take k) = (upL cap l).take k := by
  unfold upL
  split
  · exact List.map_take ..
  · rfl
theorem upL_drop (cap : Int) (l : List Int) (k : Nat) : upL cap (l.drop k) = (upL cap l).drop k := by
  unfold upL
  split
  · exact List.map_drop ..
  · rfl
theorem byt_rep {n : Nat} {c : Int} (h : -128 ≤ c ∧ c ≤ 127) : byt (List.replicate n c) := by
  intro v hv
  rw [List.eq_of_mem_replicate hv]
  exact h
theorem byt.take {l : List Int} (h : byt l) (k : Nat) : byt (l.take k) := fun v hv => h v (List.mem_of_mem_take hv)
theorem byt.drop {l : List Int} (h : byt l) (k : Nat) : byt (l.drop k) := fun v hv => h v (List.mem_of_mem_drop hv)
theorem fillL_len (l : List Int) {k : Nat} (hk : k ≤ l.length) (c : Int) (n : Nat) : (fillL l k c n).length = l.length + n := by
  unfold fillL
  rw [List.length_append, List.length_append, List.length_replicate, List.length_take, List.length_drop]
  omega
theorem PR.m_byt {l : List Int} {g z : Int} {m : List Int} {w W : Int} {F : Int32} (h : PR l g z m w W F) (hW2 : W ≤ 2000) : byt m ∧ m.length ≤ 3600 ∧ 0 ≤ w ∧ w ≤ 3600 := by
  obtain ⟨h1, h2, h3, h4, h5⟩ := h
  rcases h5 with ⟨_, rfl, e⟩ | ⟨p1, p2, _, _, rfl, e⟩
  · exact ⟨h1, by omega, by omega, by omega⟩
  · have hl := fillL_len l (k := z.toNat) (by omega) 48 (W - l.length).toNat
    refine ⟨?_, by omega, by omega, by omega⟩
    unfold fillL
    exact (h1.take _).append ((byt_rep (by omega)).append (h1.drop _))
theorem PR.same {l : List Int} {g z : Int} {m : List Int} {w W : Int} {F : Int32} (h : PR l g z m w W F) (hW : -1 ≤ W) (cap : Int) (o : List Int) :
    (((o.length : Int) + l.length + ((if W < 0 then 0 else W) - (l.length - g)).toNat ≤ 6000 ↔ o.length + m.length + (W - w).toNat ≤ 6000)) ∧
    fillL (upL cap l) (fillAt (upL cap l) z (if hasF F 1 then 1 else 0)) (if z < 0 then 32 else 48) ((if W < 0 then 0 else W) - (l.length - g)).toNat = (if hasF F 1 then upL cap m ++ List.replicate (W - w).toNat 32 else List.replicate (W - w).toNat 32 ++ upL cap m) := by
  obtain ⟨h1, h2, h3, h4, h5⟩ := h
  have hW' : (if W < 0 then (0 : Int) else W) = if W < 0 then 0 else W := rfl
  rcases h5 with ⟨rfl, rfl, e⟩ | ⟨p1, p2, rfl, p4, rfl, e⟩
  · have en : ((if W < 0 then (0 : Int) else W) - ((m.length : Int) - g)).toNat = (W - w).toNat := by
      split <;> omega
    rw [en]
    refine ⟨by omega, ?_⟩
    rw [if_pos (show (-1 : Int) < 0 by decide)]
    unfold fillL fillAt
    by_cases q : hasF F 1
    · rw [if_pos q, if_pos q, if_pos rfl, List.take_length, List.drop_length, List.append_nil]
    · rw [if_neg q, if_neg q, if_neg (show ¬ (0 : Int) = 1 by decide)]
      show (upL cap m).take 0 ++ (List.replicate (W - w).toNat 32 ++ (upL cap m).drop 0) = _
      rw [List.take_zero, List.drop_zero, List.nil_append]
  · have hl := fillL_len l (k := z.toNat) (by omega) 48 (W - l.length).toNat
    have en : ((if W < 0 then (0 : Int) else W) - ((l.length : Int) - 0)).toNat = (W - l.length).toNat := by
      split <;> omega
    have e0 : (W - w).toNat = 0 := by omega
    rw [en, e0]
    refine ⟨by omega, ?_⟩
    rw [if_neg (show ¬ z < 0 by omega), if_neg p4, if_neg p4, List.replicate_zero, List.nil_append]
    unfold fillAt
    rw [if_neg (show ¬ (0 : Int) = 1 by decide)]
    unfold fillL
    rw [upL_append, upL_append, upL_rep, upL_take, upL_drop]
