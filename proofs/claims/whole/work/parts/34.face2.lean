/-! text -/
theorem cpy_in {f g : Nat → Int32} {sp dp n k : Nat} (h1 : dp ≤ k) (h2 : k < dp + n) : va_cpy f g sp dp n k = f (sp + (k - dp)) := if_pos ⟨h1, h2⟩
theorem cpy_out {f g : Nat → Int32} {sp dp n k : Nat} (h : k < dp ∨ dp + n ≤ k) : va_cpy f g sp dp n k = g k := if_neg (by omega)
theorem min200 {m : Nat} (h : m ≤ 200) (s : zS) : r265 (zi m) (zi 200) s = zi m := if_neg (zngt (by omega))
theorem f33_loop {l : List Int} {c : Nat} (hc : c < 24) (hm : l.length ≤ 200) (ha : asc l) : ∀ (d : Nat) (i n : Nat) (s : zS), d + i = l.length → d < n → LN 1 s l → s.1 8 3 = zi c →
    ∃ s', f33_20 n (zi l.length) (zi i) s = f33_52 (zi l.length) s' ∧ fr [11] [] s s' ∧ (∀ j, i ≤ j → j < l.length → s'.1 11 (200 * c + j) = zi (l.getD j 0)) ∧ (∀ p, (p < 200 * c + i ∨ 200 * c + l.length ≤ p) → s'.1 11 p = s.1 11 p) := by
  intro d
  induction d with
  | zero =>
    intro i n s hd hn hL h8
    obtain ⟨n, rfl⟩ : ∃ k, n = k + 1 := ⟨n - 1, by omega⟩
    refine ⟨s, ?_, fr.refl, fun j h1 h2 => by omega, fun _ _ => rfl⟩
    show b33_20 (f33_20 n) _ _ _ = _
    unfold b33_20
    rw [if_pos (zge (by omega))]
  | succ d ih =>
    intro i n s hd hn hL h8
    obtain ⟨n, rfl⟩ : ∃ k, n = k + 1 := ⟨n - 1, by omega⟩
    have hi : i < l.length := by omega
    have hv := ha _ (List.getElem_mem hi)
    have e0 : f33_20 (n + 1) (zi l.length) (zi i) s = f33_20 n (zi l.length) (zi (i + 1 : Nat)) (setB s 11 (200 * c + i) (zi l[i])) := by
      show b33_20 (f33_20 n) _ _ _ = _
      unfold b33_20
      rw [if_neg (znge (by omega)), hL.at (by omega) (by omega), zb1_mk, h8, zi_mul, zi_add, if_pos (zi_ix (by omega) (by omega) (by omega)), zi_nat (by omega) (by omega), zi_add, atl_asc ha hi, zI2B_2, zI2B_id (by omega) (by omega)]
      congr 2
      omega
    obtain ⟨s', e1, e2, e3, e4⟩ := ih (i + 1) n (setB s 11 (200 * c + i) (zi l[i])) (by omega) (by omega) hL h8
    refine ⟨s', e0.trans e1, (fr.refl.sB rfl).trans e2, fun j h1 h2 => ?_, fun p hp => ?_⟩
    · by_cases hj : j = i
      · subst hj
        rw [e4 _ (by omega), gB_eq, upd_eq]
        simp [hi]
      · exact e3 j (by omega) h2
    · rw [e4 p (by omega), gB_eq, upd_ne (by omega)]
theorem op_text {P : List Int → Prop} {s : zS} (h : Inv P s) (he : s.2.2 < 600000) : opOK P s f252 f222 := by
  obtain ⟨⟨l, h1⟩, h2, h3, h4, ⟨n, h5⟩, h6⟩ := h
  have hl8 : l.length ≤ 800 := h1.1.2.2
  by_cases hl : l.length ≤ 200
  · by_cases hn : n < 24
    · obtain ⟨s', e1, e2, e3, e4⟩ := f33_loop hn hl h1.2.2 l.length 0 zF s (by omega) (by unfold zF; omega) h1.1 h5.1
      have e83 : s'.1 8 3 = zi n := by rw [e2.f rfl (by decide)]; exact h5.1
      have ex : f6 s = some (.inl (zi (n + 1)), setI (aC s' n 9 (zl l.length)) 1 1 (zi 0)) := by
        unfold f6
        rw [show r16 1 s = zi l.length from h1.1.1, if_pos (zle (by omega)), show r29 s = zi 0 by unfold r29; rw [h5.1, if_pos (zlt (by omega))], if_pos rfl]
        have e33 : f33 s = some (zi (n + 1), aC s' n 9 (zl l.length)) := by
          unfold f33
          rw [show r29 s = zi 0 by unfold r29; rw [h5.1, if_pos (zlt (by omega))], if_neg (not_not_intro rfl), show r16 1 s = zi l.length from h1.1.1, min200 hl]
          refine e1.trans ?_
          unfold f33_52
          rw [zI2L_zi (by omega) (by omega), f32_eq hn e83]
          rfl
        rw [e33]
        rfl
      have m4 : s'.1 24 4 = zi l.length := (e2.1 24 4 rfl (fun _ => rfl)).trans h1.2.1.1
      have m13 : s'.1 24 13 = zi n := (e2.1 24 13 rfl (fun _ => rfl)).trans h5.2.1
      refine ⟨zi 0, setK (setI (aC s' n 9 (zl l.length)) 1 1 (zi 0)) 41 0 (zI2L (zi (n + 1))), zi (n + 1), aM (setI (setA (setI (setK (setI (aC s' n 9 (zl l.length)) 1 1 (zi 0)) 41 0 (zI2L (zi (n + 1)))) 24 9 (zi 0)) 28 (va_cpy (s'.1 25) (s'.1 28) 0 (200 * n) l.length)) 24 4 (zi 0)) n 9 (zl 0) l.length, ?_, ?_, rfl, fun _ => rfl, ⟨⟨[], ?_⟩, ?_, ?_, ?_, ⟨n + 1, ?_⟩, ?_⟩, ?_⟩
      · unfold f252
        rw [ex, zbT_l, if_pos ix01, z00]
      · have q4 : ∀ v, (setK (setI (aC s' n 9 (zl l.length)) 1 1 (zi 0)) 41 0 v).1 24 4 = zi l.length := fun _ => m4
        have q13 : ∀ v, (setK (setI (aC s' n 9 (zl l.length)) 1 1 (zi 0)) 41 0 v).1 24 13 = zi n := fun _ => m13
        unfold f222 f222_29
        have e200 : ((200 : Int) * (n : Int)).toNat = 200 * n := by omega
        have hcp : mCp (zi 0) (zi (200 * n)) (zi l.length) 800 4800 := by
          refine ⟨znlt (b := 0) (by omega), znlt (b := 0) (by omega), znlt (b := 0) (by omega), ?_, ?_⟩
          · rw [z00, zi_toNat (by omega)]
            omega
          · rw [zi_nat (by omega) (by omega), zi_toNat (by omega)]
            omega
        rw [q4, if_pos (zle (by omega)), q13, if_pos (zne (by omega)), if_pos (zle (by omega)), zi_mul, if_pos hcp, zi_toNat (by omega), z00, zi_nat (by omega) (by omega), e200]
        refine Eq.trans (congrArg (fun o => zb1 o (fun v2 s1 => some (v2, s1))) (f219_eq hn ?_ 9 (zl 0) l.length)) ?_
        · exact m13
        · rfl
      · refine ⟨LN.empty.of rfl rfl, ⟨rfl, isL_nil⟩, fun v hv => by cases hv⟩
      · obtain ⟨g, g1, g2, g3, g4⟩ := h2
        have f1 := e2.f (a := 3) rfl (by decide)
        have f2 := e2.f (a := 4) rfl (by decide)
        have f3 := e2.f (a := 26) rfl (by decide)
        have f4 := e2.f (a := 0) rfl (by decide)
        refine ⟨g, g1.of (congrFun f1 1) f2, g2.of (e2.1 24 34 rfl (fun _ => rfl)) f3, g3, ?_⟩
        show (s'.1 0 7 = zi 1 ∧ s'.1 24 5 = zi g.length ∧ P g) ∨ (s'.1 0 7 = zi 0 ∧ s'.1 24 5 = zi (-1))
        rw [f4, e2.1 24 5 rfl (fun _ => rfl)]
        exact g4
      · obtain ⟨o, g1, g2, g3⟩ := h3
        exact ⟨o, g1.of (congrFun (e2.f (a := 5) rfl (by decide)) 1) (e2.f (a := 6) rfl (by decide)), g2.of (e2.1 24 6 rfl (fun _ => rfl)) (e2.f (a := 27) rfl (by decide)), g3⟩
      · show s'.1 0 8 = s'.1 24 7 ∧ s'.1 0 9 = s'.1 24 8
        rw [e2.f (a := 0) rfl (by decide), e2.1 24 7 rfl (fun _ => rfl), e2.1 24 8 rfl (fun _ => rfl)]
        exact h4
      · have p1 : s'.1 9 = s.1 9 := e2.f rfl (by decide)
        have p2 : s'.1 29 = s.1 29 := e2.f rfl (by decide)
        have p3 : s'.2.1 10 = s.2.1 10 := e2.l rfl
        have p4 : s'.2.1 31 = s.2.1 31 := e2.l rfl
        have p5 : s'.1 30 = s.1 30 := e2.f rfl (by decide)
        have p6 : s'.1 28 = s.1 28 := e2.f rfl (by decide)
        have p7 : s'.1 25 = s.1 25 := e2.f rfl (by decide)
        refine h5.push hn (k := 9) (v := zl l.length) (w := zl 0) (z := l.length) (t := l) (congrArg (fun f => upd f n (zi 9)) p1) (congrArg (fun f => upd f n (zi 9)) p2) (congrArg (fun f => vp_updL f n (zl l.length)) p3) (congrArg (fun f => vp_updL f n (zl 0)) p4) (congrArg (fun f => upd f n (zi l.length)) p5) ?_ ?_ rfl rfl ?_
        · intro i j hi hj
          show s'.1 11 (200 * i + j) = _
          exact e4 _ (by omega)
        · intro i j hi hj
          show va_cpy (s'.1 25) (s'.1 28) 0 (200 * n) l.length (200 * i + j) = _
          rw [cpy_out (by omega), p6]
        · have e9 : ∀ (s2 : zS), s2.2.1 10 n = zl l.length → s2.1 9 n = zi 9 → s2.1 29 n = zi 9 → s2.1 30 n = zi l.length → s2.1 11 = s'.1 11 → s2.1 28 = va_cpy (s'.1 25) (s'.1 28) 0 (200 * n) l.length → AR s2 n 9 l := by
            intro s2 a1 a2 a3 a4 a5 a6
            refine ⟨by omega, by omega, a2, a3, fun _ => by omega, fun _ => by omega, fun _ => by omega, fun _ => by omega, fun _ => by omega, fun _ => by omega, fun _ => by omega, fun _ => ⟨a1, a4, hl, ?_, ?_, h1.2.2⟩⟩
            · intro j v hv
              have hj : j < l.length := by
                rcases Nat.lt_or_ge j l.length with q | q
                · exact q
                · rw [List.getElem?_eq_none q] at hv
                  cases hv
              show s2.1 11 (200 * n + j) = zi v
              rw [a5, e3 j (by omega) hj, List.getD_eq_getElem?_getD, hv]
              rfl
            · intro j v hv
              have hj : j < l.length := by
                rcases Nat.lt_or_ge j l.length with q | q
                · exact q
                · rw [List.getElem?_eq_none q] at hv
                  cases hv
              show s2.1 28 (200 * n + j) = zi v
              rw [a6, cpy_in (by omega) (by omega), p7, show 0 + (200 * n + j - 200 * n) = j by omega]
              exact h1.2.1.2 j v hv
          exact e9 _ (updL_eq _ _ _) (upd_eq _ _ _) (upd_eq _ _ _) (upd_eq _ _ _) rfl rfl
      · obtain ⟨g1, g2, g3⟩ := h6
        have hD : ∀ a, ([11].contains a) = false → ([11].contains (a + 1)) = false → a ≠ 24 → a + 1 ≠ 24 → D6 a s → ∀ s2 : zS, s2.1 a = s'.1 a → s2.1 (a + 1) = s'.1 (a + 1) → D6 a s2 := by
          intro a c1 c2 c3 c4 hD s2 q1 q2
          unfold D6
          rw [q1, q2, e2.f c1 c3, e2.f c2 c4]
          exact hD
        exact ⟨hD 32 rfl rfl (by decide) (by decide) g1 _ rfl rfl, hD 34 rfl rfl (by decide) (by decide) g2 _ rfl rfl, hD 36 rfl rfl (by decide) (by decide) g3 _ rfl rfl⟩
      · show s'.2.2 ≤ s.2.2 + 1
        rw [e2.2.2]
        omega
    · have hn' : n = 24 := by have := h5.2.2.1; omega
      subst hn'
      refine ⟨zi 2, thr s, zi 0, setI (thr s) 24 9 (zi 2), ?_, ?_, rfl, fun q => absurd q (zne (by omega)), ⟨⟨l, h1⟩, h2, h3, h4, ⟨24, h5⟩, h6⟩, Nat.le_refl _⟩
      · have e6 : f6 s = some (.inr 2, thr s) := by
          unfold f6
          rw [show r16 1 s = zi l.length from h1.1.1, if_pos (zle (by omega)), show r29 s = zi 1 by unfold r29; rw [h5.1, if_neg (znlt (by omega))], if_neg (zne (by omega)), if_pos he]
        unfold f252
        rw [e6, zbT_r]
        rfl
      · unfold f222 f222_29
        rw [show (thr s).1 24 4 = zi l.length from h1.2.1.1, if_pos (zle (by omega)), show (thr s).1 24 13 = zi 24 from h5.2.1, if_neg (not_not_intro rfl), if_neg (znle (by omega))]
  · refine ⟨zi 1, thr s, zi 0, setI (thr s) 24 9 (zi 1), ?_, ?_, rfl, fun q => absurd q (zne (by omega)), ⟨⟨l, h1⟩, h2, h3, h4, ⟨n, h5⟩, h6⟩, Nat.le_refl _⟩
    · have e6 : f6 s = some (.inr 0, thr s) := by
        unfold f6
        rw [show r16 1 s = zi l.length from h1.1.1, if_neg (znle (by omega)), if_pos he]
      unfold f252
      rw [e6, zbT_r]
      rfl
    · unfold f222 f222_29
      rw [show (thr s).1 24 4 = zi l.length from h1.2.1.1, if_neg (znle (by omega)), if_neg (znle (by omega))]
/-! row -/
def wby (w : Int) (i : Nat) : Int := w % 18446744073709551616 / 2 ^ (8 * i) % 256
def wb (w : Int) : Nat → List Int
  | 0 => []
  | n + 1 => wby w n :: wb w n
theorem wb_len (w : Int) : ∀ n, (wb w n).length = n
  | 0 => rfl
  | n + 1 => congrArg (· + 1) (wb_len w n)
def wok (w : Int) (n : Nat) : Prop := ∀ i, i < n → wby w i ≤ 127
theorem wby_nn (w : Int) (i : Nat) : 0 ≤ wby w i ∧ wby w i < 256 := ⟨Int.emod_nonneg _ (by decide), Int.emod_lt_of_pos _ (by decide)⟩
theorem wb_asc {w : Int} : ∀ {n : Nat}, wok w n → asc (wb w n)
  | 0, _ => fun v hv => by cases hv
  | n + 1, h => by
    intro v hv
    rcases List.mem_cons.mp hv with rfl | hv
    · exact ⟨(wby_nn w n).1, h n (by omega)⟩
    · exact wb_asc (fun i hi => h i (by omega)) v hv
theorem asc.append {a b : List Int} (h : asc a) (g : asc b) : asc (a ++ b) := by
  intro v hv
  rcases List.mem_append.mp hv with q | q
  · exact h v q
  · exact g v q
theorem cast8 (i : Nat) : zi (8 * (i : Int)) = zi ((8 * i : Nat) : Int) := rfl
theorem r14_eq (w : Int) {i : Nat} (hi : i < 8) (s : zS) : r14 (zl w) (zi i) s = zi (wby w i) := by
  unfold r14
  rw [zi_mul, cast8, zushrL_zl w (by omega), zL2I_zl, zi_and255]
  rfl
/-- the same byte by the signed shift -/
theorem wby_s (w : Int) {i : Nat} (hi : i < 8) : w / 2 ^ (8 * i) % 256 = wby w i := by
  unfold wby
  have q : i = 0 ∨ i = 1 ∨ i = 2 ∨ i = 3 ∨ i = 4 ∨ i = 5 ∨ i = 6 ∨ i = 7 := by omega
  rcases q with rfl | rfl | rfl | rfl | rfl | rfl | rfl | rfl <;> simp only [Nat.mul_zero, Nat.mul_one, Nat.reduceMul, Int.reducePow] <;> omega
theorem f1_111_loop {w : Int} : ∀ (m n : Nat) (y : Int32) (s : zS) (l : List Int), m < n → m ≤ 8 → LN 1 s l → l.length + m ≤ 800 → wok w m →
    ∃ s', f1_111 n (zl w) y (zi ((m : Int) - 1)) s = some (.inl (zi (l.length + m : Nat)), s') ∧ LN 1 s' (l ++ wb w m) ∧ fr [1, 2] [] s s' := by
  intro m
  induction m with
  | zero =>
    intro n y s l hn hm hL hl hw
    obtain ⟨n, rfl⟩ : ∃ k, n = k + 1 := ⟨n - 1, by omega⟩
    refine ⟨s, ?_, by rw [show wb w 0 = [] from rfl, List.append_nil]; exact hL, fr.refl⟩
    show b1_111 (f1_111 n) _ _ _ _ = _
    unfold b1_111
    rw [if_pos (zlt (by omega)), show r16 1 s = zi l.length from hL.1]
    rfl
  | succ m ih =>
    intro n y s l hn hm hL hl hw
    obtain ⟨n, rfl⟩ : ∃ k, n = k + 1 := ⟨n - 1, by omega⟩
    obtain ⟨s1, e1, e2, e3⟩ := hL.add (show l.length < zLen 1 by show l.length < 800; omega) (wby w m)
    have hb := wby_nn w m
    have hb2 := hw m (by omega)
    have eb : (wby w m).bmod 256 = wby w m := by
      rw [Int.bmod_def]
      omega
    rw [eb] at e2
    obtain ⟨s', q1, q2, q3⟩ := ih n y s1 (l ++ [wby w m]) (by omega) (by omega) e2 (by rw [List.length_append]; show l.length + 1 + m ≤ 800; omega) (fun i hi => hw i (by omega))
    refine ⟨s', ?_, by rw [List.append_assoc] at q2; exact q2, e3.trans q3⟩
    show b1_111 (f1_111 n) _ _ _ _ = _
    unfold b1_111
    have em : ((m + 1 : Nat) : Int) - 1 = m := by omega
    rw [em, if_neg (znlt (by omega)), r14_eq w (by omega), e1, zb0_mk, zi_add]
    have em2 : (m : Int) + -1 = m - 1 := by omega
    rw [em2, q1, List.length_append]
    congr 4
    show ((l.length + 1 + m : Nat) : Int) = ((l.length + (m + 1) : Nat) : Int)
    omega
theorem f1_23_ok {w : Int} {m : Nat} (hm : m ≤ 8) {x4 : Int32} {s : zS} : ∀ (d i n : Nat), d + i = m → d < n → (∀ j, i ≤ j → j < m → wby w j ≤ 127) →
    f1_23 n (zl w) (zi m) x4 (zi i) s = (if x4 = zi 0 then f1_72 (zl w) (zi m) x4 (r16 1 s) s else f1_72 (zl w) (zi m) x4 (zi 0) s) := by
  intro d
  induction d with
  | zero =>
    intro i n hd hn hw
    obtain ⟨n, rfl⟩ : ∃ k, n = k + 1 := ⟨n - 1, by omega⟩
    show b1_23 (f1_23 n) _ _ _ _ _ = _
    unfold b1_23
    rw [if_pos (zge (by omega))]
  | succ d ih =>
    intro i n hd hn hw
    obtain ⟨n, rfl⟩ : ∃ k, n = k + 1 := ⟨n - 1, by omega⟩
    have hb := wby_nn w i
    have hb2 := hw i (by omega) (by omega)
    show b1_23 (f1_23 n) _ _ _ _ _ = _
    unfold b1_23
    rw [if_neg (znge (by omega)), r14_eq w (by omega), if_pos (zle (by omega)), zi_add]
    exact ih (i + 1) n (by omega) (by omega) (fun j h1 h2 => hw j (by omega) h2)
theorem f1_23_bad {w : Int} {m : Nat} (hm : m ≤ 8) {x4 : Int32} {s : zS} (he : s.2.2 < 600000) : ∀ (d i n : Nat), d + i = m → d < n → (∃ j, i ≤ j ∧ j < m ∧ ¬ wby w j ≤ 127) →
    f1_23 n (zl w) (zi m) x4 (zi i) s = some (.inr 0, thr s) := by
  intro d
  induction d with
  | zero =>
    intro i n hd hn hw
    obtain ⟨j, h1, h2, _⟩ := hw
    omega
  | succ d ih =>
    intro i n hd hn hw
    obtain ⟨n, rfl⟩ : ∃ k, n = k + 1 := ⟨n - 1, by omega⟩
    have hb := wby_nn w i
    show b1_23 (f1_23 n) _ _ _ _ _ = _
    unfold b1_23
    rw [if_neg (znge (by omega)), r14_eq w (by omega)]
    by_cases hb2 : wby w i ≤ 127
    · rw [if_pos (zle (by omega)), zi_add]
      obtain ⟨j, h1, h2, h3⟩ := hw
      have hj : i ≠ j := fun e => h3 (e ▸ hb2)
      exact ih (i + 1) n (by omega) (by omega) ⟨j, by omega, h2, h3⟩
    · rw [if_neg (znle (by omega)), if_pos he]
/-- the row that a call makes -/
def rowOf (l : List Int) (b : Int) (w : Int) (m : Nat) : List Int := (if b = 0 then l else []) ++ wb w m
theorem f1_row {s : zS} {l : List Int} (hL : LN 1 s l) (he : s.2.2 < 600000) {w : Int} {n : Int} (hn1 : -2147483648 ≤ n) (hn2 : n < 2147483648) {b : Int} (hb : b = 0 ∨ b = 1) :
    (0 ≤ n ∧ n ≤ 8 ∧ wok w n.toNat ∧ (if b = 0 then (l.length : Int) else 0) + n ≤ 800 ∧ ∃ s', f1 (zl w) (zi n) (zi b) s = some (.inl (zi (rowOf l b w n.toNat).length), s') ∧ LN 1 s' (rowOf l b w n.toNat) ∧ fr [1, 2] [] s s') ∨
    (¬ (0 ≤ n ∧ n ≤ 8 ∧ wok w n.toNat ∧ (if b = 0 then (l.length : Int) else 0) + n ≤ 800) ∧ f1 (zl w) (zi n) (zi b) s = some (.inr 0, thr s)) := by
  have hl8 : l.length ≤ 800 := hL.2.2
  by_cases h0 : 0 ≤ n ∧ n ≤ 8
  · obtain ⟨m, rfl⟩ : ∃ m : Nat, n = m := ⟨n.toNat, by omega⟩
    have ef : f1 (zl w) (zi m) (zi b) s = f1_23 zF (zl w) (zi m) (zi b) (zi (0 : Nat)) s := by
      unfold f1
      rw [if_neg (znlt (by omega)), if_pos (zle (by omega))]
      rfl
    rw [ef, Int.toNat_natCast]
    by_cases hw : wok w m
    · rw [f1_23_ok (w := w) (by omega) m 0 zF (by omega) (by unfold zF; omega) (fun j _ h2 => hw j h2)]
      rcases hb with rfl | rfl
      · rw [if_pos rfl, if_pos rfl, show r16 1 s = zi l.length from hL.1]
        by_cases hs : (l.length : Int) + m ≤ 800
        · left
          obtain ⟨s', q1, q2, q3⟩ := f1_111_loop (w := w) m zF (zi l.length) s l (by unfold zF; omega) (by omega) hL (by omega) hw
          refine ⟨by omega, by omega, hw, hs, s', ?_, q2, q3⟩
          unfold f1_72
          rw [zi_add, if_pos (zle (by omega)), if_pos rfl, zi_sub, q1]
          show some (Sum.inl (zi (l.length + m : Nat)), s') = some (Sum.inl (zi (l ++ wb w m).length), s')
          rw [List.length_append, wb_len]
        · right
          refine ⟨fun q => hs q.2.2.2, ?_⟩
          unfold f1_72
          rw [zi_add, if_neg (znle (by omega)), if_pos he]
      · rw [if_neg (zne (by omega)), if_neg (by omega)]
        left
        obtain ⟨s', q1, q2, q3⟩ := f1_111_loop (w := w) m zF (zi 0) (setI s 1 1 (zi 0)) [] (by unfold zF; omega) (by omega) LN.empty (by show 0 + m ≤ 800; omega) hw
        refine ⟨by omega, by omega, hw, by omega, s', ?_, q2, (fr.refl.sI (.inl rfl)).trans q3⟩
        unfold f1_72
        rw [zi_add, if_pos (zle (by omega)), if_neg (zne (by omega)), show f21 1 s = some (setI s 1 1 (zi 0)) from rfl, zb0_mk, zi_sub, q1]
        show some (Sum.inl (zi (0 + m : Nat)), s') = some (Sum.inl (zi ([] ++ wb w m).length), s')
        rw [List.nil_append, wb_len, Nat.zero_add]
    · right
      refine ⟨fun q => hw q.2.2.1, ?_⟩
      have hw' : ∃ j, 0 ≤ j ∧ j < m ∧ ¬ wby w j ≤ 127 := by
        apply Classical.byContradiction
        intro q
        apply hw
        intro i hi
        apply Classical.byContradiction
        intro q2
        exact q ⟨i, Nat.zero_le _, hi, q2⟩
      exact f1_23_bad (w := w) (by omega) he m 0 zF (by omega) (by unfold zF; omega) hw'
  · right
    refine ⟨fun q => h0 ⟨q.1, q.2.1⟩, ?_⟩
    have e10 : f1_10 s = some (.inr 0, thr s) := if_pos he
    unfold f1
    by_cases h1 : n < 0
    · rw [if_pos (zlt (by omega)), e10]
    · rw [if_neg (znlt (by omega)), if_neg (znle (by omega)), e10]
theorem f216_117_loop {w : Int} : ∀ (m n : Nat) (y : Int32) (s : zS) (l : List Int), m < n → m ≤ 8 → MN 4 25 s l → l.length + m ≤ 800 → wok w m →
    ∃ s', f216_117 n (zl w) y (zi ((m : Int) - 1)) s = some (zi (l.length + m : Nat), s') ∧ MN 4 25 s' (l ++ wb w m) ∧ fr [25] [4] s s' := by
  intro m
  induction m with
  | zero =>
    intro n y s l hn hm hL hl hw
    obtain ⟨n, rfl⟩ : ∃ k, n = k + 1 := ⟨n - 1, by omega⟩
    refine ⟨s, ?_, by rw [show wb w 0 = [] from rfl, List.append_nil]; exact hL, fr.refl⟩
    show b216_117 (f216_117 n) _ _ _ _ = _
    unfold b216_117
    rw [if_pos (zlt (by omega)), hL.1]
    rfl
  | succ m ih =>
    intro n y s l hn hm hL hl hw
    obtain ⟨n, rfl⟩ : ∃ k, n = k + 1 := ⟨n - 1, by omega⟩
    have hb := wby_nn w m
    have hb2 := hw m (by omega)
    have hs := wby_s w (show m < 8 by omega)
    have e2 : MN 4 25 (setB (setI s 24 4 (zi (l.length + 1 : Nat))) 25 l.length (zi (wby w m))) (l ++ [wby w m]) := by
      refine ⟨?_, ?_⟩
      · rw [List.length_append]
        rfl
      · exact hL.2.snoc rfl rfl
    obtain ⟨s', q1, q2, q3⟩ := ih n y _ (l ++ [wby w m]) (by omega) (by omega) e2 (by rw [List.length_append]; show l.length + 1 + m ≤ 800; omega) (fun i hi => hw i (by omega))
    refine ⟨s', ?_, by rw [List.append_assoc] at q2; exact q2, ((fr.refl.sI (.inr ⟨rfl, rfl⟩)).sB rfl).trans q3⟩
    show b216_117 (f216_117 n) _ _ _ _ = _
    unfold b216_117
    have em : ((m + 1 : Nat) : Int) - 1 = m := by omega
    have em2 : (m : Int) + -1 = m - 1 := by omega
    have ev : zI2B (zI2B (zL2I (zshrL (zl w) (zi 8 * zi m)))) = zi (wby w m) := by
      rw [zI2B_2, zi_mul, cast8, zl_mod w]
      have hbm := Int.le_bmod (x := w) (m := 18446744073709551616) (by decide)
      have hbm2 := Int.bmod_lt (x := w) (m := 18446744073709551616) (by decide)
      rw [zshrL_zl (by omega) (by omega) (by omega), zL2I_zl, zI2B_zi]
      have h3 := wby_s (w.bmod 18446744073709551616) (show m < 8 by omega)
      have h4 : wby (w.bmod 18446744073709551616) m = wby w m := by
        unfold wby
        have : w.bmod 18446744073709551616 % 18446744073709551616 = w % 18446744073709551616 := by
          have := Int.bmod_emod (x := w) (m := 18446744073709551616)
          exact this
        rw [this]
      congr 1
      rw [Int.bmod_def]
      have h5 : (w.bmod 18446744073709551616 / 2 ^ (8 * m)) % ((256 : Nat) : Int) = wby w m := h3.trans h4
      rw [h5]
      split <;> omega
    rw [em, if_neg (znlt (by omega)), hL.1, if_pos (zi_ix (by omega) (by omega) (by omega)), zi_add, zi_add, em2, ev, zi_toNat (by omega)]
    refine Eq.trans ?_ (q1.trans ?_)
    · rfl
    · rw [List.length_append]
      congr 3
      show ((l.length + 1 + m : Nat) : Int) = ((l.length + (m + 1) : Nat) : Int)
      omega
theorem b128_eq (w : Int) {i : Nat} (hi : i < 8) : (zshrL (zl w) (zi 8 * zi i)) &&& zl 128 = (if wby w i ≤ 127 then zl 0 else zl 128) := by
  rw [zi_mul, cast8, zl_mod w]
  have hbm := Int.le_bmod (x := w) (m := 18446744073709551616) (by decide)
  have hbm2 := Int.bmod_lt (x := w) (m := 18446744073709551616) (by decide)
  rw [zshrL_zl (by omega) (by omega) (by omega), zl_b128]
  have h3 := wby_s (w.bmod 18446744073709551616) hi
  have h4 : wby (w.bmod 18446744073709551616) i = wby w i := by
    unfold wby
    have : w.bmod 18446744073709551616 % 18446744073709551616 = w % 18446744073709551616 := Int.bmod_emod (x := w) (m := 18446744073709551616)
    rw [this]
  rw [h4] at h3
  generalize w.bmod 18446744073709551616 / 2 ^ (8 * i) = q at *
  have hb := wby_nn w i
  by_cases hb2 : wby w i ≤ 127
  · rw [if_pos hb2]
    congr 1
    omega
  · rw [if_neg hb2]
    congr 1
    omega
theorem f216_45_ok {w : Int} {m : Nat} (hm : m ≤ 8) {x5 : Int32} {s : zS} : ∀ (d i n : Nat), d + i = m → d < n → (∀ j, i ≤ j → j < m → wby w j ≤ 127) →
    f216_45 n (zl w) (zi m) x5 (zi 1) (zi i) s = f216_85 (zl w) (zi m) x5 (zi 1) s := by
  intro d
  induction d with
  | zero =>
    intro i n hd hn hw
    obtain ⟨n, rfl⟩ : ∃ k, n = k + 1 := ⟨n - 1, by omega⟩
    show b216_45 (f216_45 n) _ _ _ _ _ _ = _
    unfold b216_45
    rw [if_pos (zge (by omega))]
  | succ d ih =>
    intro i n hd hn hw
    obtain ⟨n, rfl⟩ : ∃ k, n = k + 1 := ⟨n - 1, by omega⟩
    have hb2 := hw i (by omega) (by omega)
    show b216_45 (f216_45 n) _ _ _ _ _ _ = _
    unfold b216_45
    rw [if_neg (znge (by omega)), if_neg (zne (by omega)), b128_eq w (by omega), if_pos hb2, if_neg (not_not_intro rfl), zi_add]
    exact ih (i + 1) n (by omega) (by omega) (fun j h1 h2 => hw j (by omega) h2)
theorem f216_45_off {x1 : Int64} {x3 x5 : Int32} {s : zS} {i : Int32} {n : Nat} (hn : 0 < n) : f216_45 n x1 x3 x5 (zi 0) i s = f216_85 x1 x3 x5 (zi 0) s := by
  obtain ⟨n, rfl⟩ : ∃ k, n = k + 1 := ⟨n - 1, by omega⟩
  show b216_45 (f216_45 n) _ _ _ _ _ _ = _
  unfold b216_45
  rw [if_pos rfl]
  split <;> rfl
theorem f216_45_bad {w : Int} {m : Nat} (hm : m ≤ 8) {x5 : Int32} {s : zS} : ∀ (d i n : Nat), d + i = m → d + 1 < n → (∃ j, i ≤ j ∧ j < m ∧ ¬ wby w j ≤ 127) →
    f216_45 n (zl w) (zi m) x5 (zi 1) (zi i) s = f216_85 (zl w) (zi m) x5 (zi 0) s := by
  intro d
  induction d with
  | zero =>
    intro i n hd hn hw
    obtain ⟨j, h1, h2, _⟩ := hw
    omega
  | succ d ih =>
    intro i n hd hn hw
    obtain ⟨n, rfl⟩ : ∃ k, n = k + 1 := ⟨n - 1, by omega⟩
    show b216_45 (f216_45 n) _ _ _ _ _ _ = _
    unfold b216_45
    rw [if_neg (znge (by omega)), if_neg (zne (by omega)), b128_eq w (by omega)]
    by_cases hb2 : wby w i ≤ 127
    · rw [if_pos hb2, if_neg (not_not_intro rfl), zi_add]
      obtain ⟨j, h1, h2, h3⟩ := hw
      have hj : i ≠ j := fun e => h3 (e ▸ hb2)
      exact ih (i + 1) n (by omega) (by omega) ⟨j, by omega, h2, h3⟩
    · rw [if_neg hb2, if_pos (zlne (by omega)), f216_45_off (by omega)]
theorem f216_row {s : zS} {l : List Int} (hL : MN 4 25 s l) (hl8 : l.length ≤ 800) {w : Int} {n : Int} (hn1 : -2147483648 ≤ n) (hn2 : n < 2147483648) {b : Int} (hb : b = 0 ∨ b = 1) :
    ((0 ≤ n ∧ n ≤ 8 ∧ wok w n.toNat ∧ (if b = 0 then (l.length : Int) else 0) + n ≤ 800) → ∃ s', f216 (zl w) (zi n) (zi b) s = some (zi (rowOf l b w n.toNat).length, s') ∧ MN 4 25 s' (rowOf l b w n.toNat) ∧ s'.1 24 9 = zi 0 ∧ fr [25] [4, 9] s s') ∧
    (¬ (0 ≤ n ∧ n ≤ 8 ∧ wok w n.toNat ∧ (if b = 0 then (l.length : Int) else 0) + n ≤ 800) → f216 (zl w) (zi n) (zi b) s = some (zi 0, setI s 24 9 (zi 1))) := by
  have e0 : f216 (zl w) (zi n) (zi b) s = f216_13 (zl w) (zi n) (zi b) (zi (if b = 0 then (l.length : Int) else 0)) s := by
    unfold f216
    rcases hb with rfl | rfl
    · rw [if_pos rfl, hL.1]
      rfl
    · rw [if_neg (zne (by omega))]
      rfl
  have eoff : ∀ y : Int32, f216_85 (zl w) (zi n) y (zi 0) s = some (zi 0, setI s 24 9 (zi 1)) := by
    intro y
    unfold f216_85 f216_96
    rw [if_pos rfl, if_neg (not_not_intro rfl)]
  rw [e0]
  have hB : 0 ≤ (if b = 0 then (l.length : Int) else 0) ∧ (if b = 0 then (l.length : Int) else 0) ≤ 800 := by
    split <;> omega
  generalize hBe : (if b = 0 then (l.length : Int) else 0) = B at *
  refine ⟨fun hf => ?_, fun hf => ?_⟩
  · obtain ⟨h1, h2, h3, h4⟩ := hf
    obtain ⟨m, rfl⟩ : ∃ m : Nat, n = m := ⟨n.toNat, by omega⟩
    rw [Int.toNat_natCast] at *
    have hM : MN 4 25 (setI (setI s 24 9 (zi 0)) 24 4 (zi B)) (if b = 0 then l else []) := by
      rcases hb with rfl | rfl
      · refine ⟨?_, hL.2⟩
        rw [if_pos rfl] at hBe ⊢
        rw [← hBe]
        rfl
      · rw [if_neg (by omega)] at hBe ⊢
        rw [← hBe]
        exact ⟨rfl, isL_nil⟩
    have hlen : ((if b = 0 then l else []) : List Int).length + m ≤ 800 := by
      rcases hb with rfl | rfl
      · rw [if_pos rfl] at hBe ⊢
        omega
      · rw [if_neg (by omega)]
        show 0 + m ≤ 800
        omega
    obtain ⟨s', q1, q2, q3⟩ := f216_117_loop (w := w) m zF (zi 1) _ _ (by unfold zF; omega) (by omega) hM hlen h3
    refine ⟨s', ?_, q2, ?_, ((fr.refl.sI (.inr ⟨rfl, rfl⟩)).sI (.inr ⟨rfl, rfl⟩)).trans (q3.up rfl rfl)⟩
    · unfold f216_13
      rw [if_neg (znlt (by omega)), if_neg (zngt (by omega)), zi_add, if_neg (zngt (by omega))]
      refine (f216_45_ok (w := w) (by omega) m 0 zF (by omega) (by unfold zF; omega) (fun j _ h => h3 j h)).trans ?_
      unfold f216_85 f216_96
      rw [if_neg (zne (by omega)), if_pos (zne (by omega)), zi_sub, q1]
      unfold rowOf
      rw [List.length_append, wb_len]
    · rw [q3.1 24 9 rfl (fun _ => rfl)]
      rfl
  · unfold f216_13
    by_cases h1 : n < 0
    · rw [if_pos (zlt (by omega)), f216_45_off (by unfold zF; omega), eoff]
    · rw [if_neg (znlt (by omega))]
      by_cases h2 : n > 8
      · rw [if_pos (zgt (by omega)), f216_45_off (by unfold zF; omega), eoff]
      · rw [if_neg (zngt (by omega)), zi_add]
        by_cases h3 : B + n > 800
        · rw [if_pos (zgt (by omega)), f216_45_off (by unfold zF; omega), eoff]
        · rw [if_neg (zngt (by omega))]
          obtain ⟨m, rfl⟩ : ∃ m : Nat, n = m := ⟨n.toNat, by omega⟩
          rw [Int.toNat_natCast] at hf
          have hw' : ∃ j, 0 ≤ j ∧ j < m ∧ ¬ wby w j ≤ 127 := by
            apply Classical.byContradiction
            intro q
            apply hf
            refine ⟨by omega, by omega, ?_, by omega⟩
            intro i hi
            apply Classical.byContradiction
            intro q2
            exact q ⟨i, Nat.zero_le _, hi, q2⟩
          refine (f216_45_bad (w := w) (by omega) m 0 zF (by omega) (by unfold zF; omega) hw').trans ?_
          exact eoff _
/-! what frames leave of the relation -/
theorem R2.fr {P : List Int → Prop} {A B : List Nat} {s s' : zS} (h : fr A B s s') {g : List Int} (hR : R2 P s g) (c0 : A.contains 0 = false) (c3 : A.contains 3 = false) (c4 : A.contains 4 = false) (c24 : A.contains 24 = false) (c26 : A.contains 26 = false) (b5 : B.contains 5 = false) (b34 : B.contains 34 = false) : R2 P s' g := by
  obtain ⟨g1, g2, g3, g4⟩ := hR
  refine ⟨g1.of (congrFun (h.f c3 (by decide)) 1) (h.f c4 (by decide)), g2.of (h.1 24 34 c24 (fun _ => b34)) (h.f c26 (by decide)), g3, ?_⟩
  rw [h.f c0 (by decide), h.1 24 5 c24 (fun _ => b5)]
  exact g4
theorem R3.fr {A B : List Nat} {s s' : zS} (h : fr A B s s') {o : List Int} (hR : R3 s o) (c5 : A.contains 5 = false) (c6 : A.contains 6 = false) (c24 : A.contains 24 = false) (c27 : A.contains 27 = false) (b6 : B.contains 6 = false) : R3 s' o :=
  ⟨hR.1.of (congrFun (h.f c5 (by decide)) 1) (h.f c6 (by decide)), hR.2.1.of (h.1 24 6 c24 (fun _ => b6)) (h.f c27 (by decide)), hR.2.2⟩
theorem R4.fr {A B : List Nat} {s s' : zS} (h : fr A B s s') (hR : R4 s) (c0 : A.contains 0 = false) (c24 : A.contains 24 = false) (b7 : B.contains 7 = false) (b8 : B.contains 8 = false) : R4 s' := by
  unfold R4
  rw [h.f c0 (by decide), h.1 24 7 c24 (fun _ => b7), h.1 24 8 c24 (fun _ => b8)]
  exact hR
theorem R5.fr {A B : List Nat} {s s' : zS} (h : fr A B s s') {n : Nat} (hR : R5 s n) (c8 : A.contains 8 = false) (c9 : A.contains 9 = false) (c10 : A.contains 10 = false) (c11 : A.contains 11 = false) (c24 : A.contains 24 = false) (c28 : A.contains 28 = false) (c29 : A.contains 29 = false) (c30 : A.contains 30 = false) (c31 : A.contains 31 = false) (b13 : B.contains 13 = false) : R5 s' n := by
  obtain ⟨g1, g2, g3, g4⟩ := hR
  refine ⟨by rw [h.f c8 (by decide)]; exact g1, by rw [h.1 24 13 c24 (fun _ => b13)]; exact g2, g3, fun i hi => ?_⟩
  obtain ⟨k, t, q⟩ := g4 i hi
  exact ⟨k, t, q.of (congrFun (h.f c9 (by decide)) i) (congrFun (h.f c29 (by decide)) i) (congrFun (h.l c10) i) (congrFun (h.l c31) i) (congrFun (h.f c30 (by decide)) i) (fun j _ => congrFun (h.f c11 (by decide)) _) (fun j _ => congrFun (h.f c28 (by decide)) _)⟩
theorem D6.fr {A B : List Nat} {s s' : zS} (h : fr A B s s') {a : Nat} (hR : D6 a s) (c1 : A.contains a = false) (c2 : A.contains (a + 1) = false) (n1 : a ≠ 24) (n2 : a + 1 ≠ 24) : D6 a s' := by
  unfold D6
  rw [h.f c1 n1, h.f c2 n2]
  exact hR
theorem R6.fr {A B : List Nat} {s s' : zS} (h : fr A B s s') (hR : R6 s) (c1 : A.contains 32 = false) (c2 : A.contains 33 = false) (c3 : A.contains 34 = false) (c4 : A.contains 35 = false) (c5 : A.contains 36 = false) (c6 : A.contains 37 = false) : R6 s' :=
  ⟨hR.1.fr h c1 c2 (by decide) (by decide), hR.2.1.fr h c3 c4 (by decide) (by decide), hR.2.2.fr h c5 c6 (by decide) (by decide)⟩
theorem op_row {P : List Int → Prop} {s : zS} (h : Inv P s) (he : s.2.2 < 600000) (x1 : Int64) (x3 : Int32) {x4 : Int32} (hx : x4 = zi 0 ∨ x4 = zi 1) : opOK P s (f248 x1 x3 x4) (f216 x1 x3 x4) := by
  obtain ⟨w, _, _, rfl⟩ := zl_of x1
  obtain ⟨n, hn1, hn2, rfl⟩ := zi_of x3
  have hb : ∃ b : Int, (b = 0 ∨ b = 1) ∧ x4 = zi b := by
    rcases hx with hx | hx
    · exact ⟨0, .inl rfl, hx⟩
    · exact ⟨1, .inr rfl, hx⟩
  obtain ⟨b, hb, rfl⟩ := hb
  obtain ⟨⟨l, h1⟩, ⟨g, h2⟩, ⟨o, h3⟩, h4, ⟨na, h5⟩, h6⟩ := h
  have hl8 : l.length ≤ 800 := h1.1.2.2
  rcases f1_row h1.1 he (w := w) hn1 hn2 hb with ⟨q1, q2, q3, q4, s1, q5, q6, q7⟩ | ⟨q1, q2⟩
  · have hfr : fr [1, 2, 41] [] s (setK s1 41 0 (zI2L (zi (rowOf l b w n.toNat).length))) := (q7.up (A' := [1, 2, 41]) rfl rfl).sK rfl
    have hM : MN 4 25 (setK s1 41 0 (zI2L (zi (rowOf l b w n.toNat).length))) l := h1.2.1.of (hfr.1 24 4 rfl (fun _ => rfl)) (hfr.f rfl (by decide))
    obtain ⟨s2, p1, p2, p3, p4⟩ := (f216_row hM hl8 (w := w) hn1 hn2 hb).1 ⟨q1, q2, q3, q4⟩
    have hfa : fr [1, 2, 41, 25] [4, 9] s s2 := (hfr.up rfl rfl).trans (p4.up rfl rfl)
    refine ⟨zi 0, _, _, s2, ?_, p1, p3, fun _ => ?_, ⟨⟨_, ?_, p2, ?_⟩, ⟨g, h2.fr hfa rfl rfl rfl rfl rfl rfl rfl⟩, ⟨o, h3.fr hfa rfl rfl rfl rfl rfl⟩, h4.fr hfa rfl rfl rfl rfl, ⟨na, h5.fr hfa rfl rfl rfl rfl rfl rfl rfl rfl rfl rfl⟩, h6.fr hfa rfl rfl rfl rfl rfl rfl⟩, ?_⟩
    · unfold f248
      rw [q5, zbT_l, if_pos ix01, z00]
    · rw [p4.2.1 41 0 rfl]
      rfl
    · exact q6.of (congrFun (p4.f (a := 1) rfl (by decide)) 1) (p4.f (a := 2) rfl (by decide))
    · unfold rowOf
      refine asc.append ?_ (wb_asc q3)
      split
      · exact h1.2.2
      · exact fun v hv => by cases hv
    · rw [hfa.2.2]
      omega
  · have p1 := (f216_row (s := thr s) h1.2.1 hl8 (w := w) hn1 hn2 hb).2 q1
    refine ⟨zi 1, thr s, zi 0, setI (thr s) 24 9 (zi 1), ?_, p1, rfl, fun q => absurd q (zne (by omega)), ⟨⟨l, h1⟩, ⟨g, h2⟩, ⟨o, h3⟩, h4, ⟨na, h5⟩, h6⟩, Nat.le_refl _⟩
    unfold f248
    rw [q2, zbT_r]
    rfl
/-! output and digest -/
def owd (o : List Int) : Nat → Int → Int64 → Int64
  | 0, _, W => W
  | n + 1, a, W => owd o n (a + 1) ((zshlL W (zi 8)) ||| (zI2L (zi (if atl o a < 0 then 0 else atl o a))))
theorem f10_loop {s : zS} {o : List Int} (hL : LN 5 s o) {a : Int} (h1 : 0 ≤ a) (h2 : a ≤ 6000) : ∀ (d i n : Nat) (W : Int64), d + i = 8 → d < n → f10_26 n (zi a) W (zi i) s = some (.inl (owd o d (a + i) W), s) := by
  intro d
  induction d with
  | zero =>
    intro i n W hd hn
    obtain ⟨n, rfl⟩ : ∃ k, n = k + 1 := ⟨n - 1, by omega⟩
    show b10_26 (f10_26 n) _ _ _ _ = _
    unfold b10_26
    rw [if_pos (zge (by omega))]
    rfl
  | succ d ih =>
    intro i n W hd hn
    obtain ⟨n, rfl⟩ : ∃ k, n = k + 1 := ⟨n - 1, by omega⟩
    have hr := atl_range o (a + i)
    show b10_26 (f10_26 n) _ _ _ _ = _
    unfold b10_26
    rw [if_neg (znge (by omega)), zi_add, hL.at (by omega) (by omega), zb1_mk, zi_add]
    have em : r264 (zi (atl o (a + i))) (zi 0) s = zi (if atl o (a + i) < 0 then 0 else atl o (a + i)) := by
      unfold r264
      by_cases q : atl o (a + i) < 0
      · rw [if_pos (zlt (by omega)), if_pos q]
      · rw [if_neg (znlt (by omega)), if_neg q]
    rw [em]
    refine (ih (i + 1) n _ (by omega) (by omega)).trans ?_
    show some (Sum.inl (owd o d (a + (i + 1 : Nat)) _), s) = some (Sum.inl (owd o d (a + i + 1) _), s)
    have : a + ((i + 1 : Nat) : Int) = a + i + 1 := by omega
    rw [this]
theorem f226_loop {s : zS} {o : List Int} (hL : MN 6 27 s o) (ho : o.length ≤ 6000) {a : Int} (h1 : 0 ≤ a) (h2 : a ≤ 6000) : ∀ (d i n : Nat) (W : Int64), d + i = 8 → d < n → f226_34 n (zi a) W (zi (a + i)) s = some (owd o d (a + i) W, s) := by
  intro d
  induction d with
  | zero =>
    intro i n W hd hn
    obtain ⟨n, rfl⟩ : ∃ k, n = k + 1 := ⟨n - 1, by omega⟩
    show b226_34 (f226_34 n) _ _ _ _ = _
    unfold b226_34
    rw [zi_add, if_pos (zge (by omega))]
    rfl
  | succ d ih =>
    intro i n W hd hn
    obtain ⟨n, rfl⟩ : ∃ k, n = k + 1 := ⟨n - 1, by omega⟩
    have e3 : a + (i : Int) + 1 = a + ((i + 1 : Nat) : Int) := by omega
    show b226_34 (f226_34 n) _ _ _ _ = _
    unfold b226_34
    rw [zi_add, if_neg (znge (by omega)), hL.1, zi_add, e3]
    by_cases q : a + i < o.length
    · obtain ⟨p, hp⟩ : ∃ p : Nat, a + i = p := ⟨(a + i).toNat, by omega⟩
      rw [hp] at q ⊢
      have hr := atl_lt (l := o) (show p < o.length by omega)
      rw [if_neg (znge (by omega)), if_pos (zi_ix (by omega) (by omega) (by omega)), zi_toNat (by omega), hL.2.get (show p < o.length by omega), zi_and255, ih (i + 1) n _ (by omega) (by omega)]
      show _ = some (owd o d (p + 1) ((zshlL W (zi 8)) ||| (zI2L (zi (if atl o p < 0 then 0 else atl o p)))), s)
      rw [hr, if_neg (by omega), ← hp, e3]
    · rw [if_pos (zge (by omega)), ih (i + 1) n _ (by omega) (by omega)]
      show _ = some (owd o d (a + i + 1) ((zshlL W (zi 8)) ||| (zI2L (zi (if atl o (a + i) < 0 then 0 else atl o (a + i))))), s)
      rw [atl_ge (by omega), if_pos (by omega), e3]
theorem op_output {P : List Int → Prop} {s : zS} (h : Inv P s) (he : s.2.2 < 600000) (x1 : Int32) : opOKL P s (f254 x1) (f226 x1) := by
  obtain ⟨a, ha1, ha2, rfl⟩ := zi_of x1
  obtain ⟨h1, h2, ⟨o, h3⟩, h4, h5, h6⟩ := h
  have ho : o.length ≤ 6000 := h3.1.2.2
  by_cases hb : 0 ≤ a ∧ a ≤ 6000
  · obtain ⟨b1, b2⟩ := hb
    have e10 : f10 (zi a) s = some (.inl (owd o 8 (a + (0 : Nat)) (zl 0)), s) := by
      unfold f10
      rw [if_neg (znlt (by omega)), if_pos (zle (by omega))]
      exact f10_loop h3.1 b1 b2 8 0 zF (zl 0) rfl (by unfold zF; omega)
    refine ⟨zi 0, setK s 41 0 (owd o 8 (a + (0 : Nat)) (zl 0)), owd o 8 (a + (0 : Nat)) (zl 0), setI (setK s 41 0 (owd o 8 (a + (0 : Nat)) (zl 0))) 24 9 (zi 0), ?_, ?_, rfl, fun _ => rfl, ⟨h1, h2, ⟨o, h3⟩, h4, h5, h6⟩, Nat.le_succ _⟩
    · unfold f254
      rw [e10, zbT_l, if_pos ix01, z00]
    · unfold f226 f226_17
      rw [if_neg (znlt (by omega)), if_pos (zle (by omega)), if_pos (zle (by omega))]
      have e := f226_loop (s := setI (setK s 41 0 (owd o 8 (a + (0 : Nat)) (zl 0))) 24 9 (zi 0)) h3.2.1 ho b1 b2 8 0 zF (zl 0) rfl (by unfold zF; omega)
      have e0 : a + ((0 : Nat) : Int) = a := by omega
      rw [e0] at e ⊢
      exact e
  · refine ⟨zi 1, thr s, zl 0, setI (thr s) 24 9 (zi 1), ?_, ?_, rfl, fun q => absurd q (zne (by omega)), ⟨h1, h2, ⟨o, h3⟩, h4, h5, h6⟩, Nat.le_refl _⟩
    · have e11 : f10_11 s = some (.inr 0, thr s) := if_pos he
      have e10 : f10 (zi a) s = some (.inr 0, thr s) := by
        unfold f10
        by_cases q : a < 0
        · rw [if_pos (zlt (by omega)), e11]
        · rw [if_neg (znlt (by omega)), if_neg (znle (by omega)), e11]
      unfold f254
      rw [e10, zbT_r]
      rfl
    · unfold f226 f226_17
      by_cases q : a < 0
      · rw [if_pos (zlt (by omega)), if_neg (znle (by omega))]
      · rw [if_neg (znlt (by omega)), if_neg (znle (by omega)), if_neg (znle (by omega))]
def odg (o : List Int) : Nat → Nat → Int64 → Int64
  | 0, _, W => W
  | n + 1, i, W => odg o n (i + 1) (W * zl 31 + zI2L (zi (atl o i)))
theorem f11_loop {s : zS} {o : List Int} (hL : LN 5 s o) : ∀ (d i n : Nat) (W : Int64), d + i = o.length → d < n → f11_6 n W (zi i) s = some (odg o d i W, s) := by
  have ho : o.length ≤ 6000 := hL.2.2
  intro d
  induction d with
  | zero =>
    intro i n W hd hn
    obtain ⟨n, rfl⟩ : ∃ k, n = k + 1 := ⟨n - 1, by omega⟩
    show b11_6 (f11_6 n) _ _ _ = _
    unfold b11_6
    rw [show r16 5 s = zi o.length from hL.1, if_pos (zge (by omega))]
    rfl
  | succ d ih =>
    intro i n W hd hn
    obtain ⟨n, rfl⟩ : ∃ k, n = k + 1 := ⟨n - 1, by omega⟩
    show b11_6 (f11_6 n) _ _ _ = _
    unfold b11_6
    rw [show r16 5 s = zi o.length from hL.1, if_neg (znge (by omega)), hL.at (by omega) (by omega), zb1_mk, zi_add]
    exact ih (i + 1) n _ (by omega) (by omega)
theorem f227_loop {s : zS} {o : List Int} (hL : MN 6 27 s o) (ho : o.length ≤ 6000) : ∀ (d i n : Nat) (W : Int64), d + i = o.length → d < n → f227_11 n W (zi i) s = some (odg o d i W, s) := by
  intro d
  induction d with
  | zero =>
    intro i n W hd hn
    obtain ⟨n, rfl⟩ : ∃ k, n = k + 1 := ⟨n - 1, by omega⟩
    show b227_11 (f227_11 n) _ _ _ = _
    unfold b227_11
    rw [hL.1, if_pos (zge (by omega))]
    rfl
  | succ d ih =>
    intro i n W hd hn
    obtain ⟨n, rfl⟩ : ∃ k, n = k + 1 := ⟨n - 1, by omega⟩
    have hi : i < o.length := by omega
    show b227_11 (f227_11 n) _ _ _ = _
    unfold b227_11
    rw [hL.1, if_neg (znge (by omega)), if_pos (zi_ix (by omega) (by omega) (by omega)), zi_toNat (by omega), hL.2.get hi, zi_and255, zi_add]
    refine (ih (i + 1) n _ (by omega) (by omega)).trans ?_
    show _ = some (odg o d (i + 1) (W * zl 31 + zI2L (zi (atl o i))), s)
    rw [atl_lt hi, Int64.mul_comm]
theorem op_digest {P : List Int → Prop} {s : zS} (h : Inv P s) : ∃ v s2, f11 s = some (v, s) ∧ f227 s = some (v, s2) ∧ Inv P s2 ∧ s2.2.2 ≤ s.2.2 + 1 := by
  obtain ⟨h1, h2, ⟨o, h3⟩, h4, h5, h6⟩ := h
  have ho : o.length ≤ 6000 := h3.1.2.2
  exact ⟨_, setI s 24 9 (zi 0), f11_loop h3.1 o.length 0 zF (zl 7) (by omega) (by unfold zF; omega), f227_loop (s := setI s 24 9 (zi 0)) h3.2.1 ho o.length 0 zF (zl 7) (by omega) (by unfold zF; omega), ⟨h1, h2, ⟨o, h3⟩, h4, h5, h6⟩, Nat.le_succ _⟩
