/-! the text of a number: both trim, take a sign, and compare words alike -/
/-- the byte at p, below e -/
def ch (l : List Int) (e p : Nat) : Int := if p < e then atl l p else -1
theorem ch_rng {l : List Int} (ha : asc l) (e p : Nat) : -1 ≤ ch l e p ∧ ch l e p ≤ 127 := by
  unfold ch
  by_cases c : p < e
  · rw [if_pos c]
    exact atl_asc_range ha p
  · rw [if_neg c]
    omega
/-- what the class may change: addresses A, of its reader the fields F -/
def kp (A F : List Nat) (s s' : zS) : Prop := fr A [] s s' ∧ ∀ k, F.contains k = false → s'.1 21 k = s.1 21 k
theorem kp.refl {A F : List Nat} {s : zS} : kp A F s s := ⟨fr.refl, fun _ _ => rfl⟩
theorem kp.trans {A F : List Nat} {s s' s'' : zS} (h : kp A F s s') (g : kp A F s' s'') : kp A F s s'' := ⟨h.1.trans g.1, fun k hk => (g.2 k hk).trans (h.2 k hk)⟩
theorem kp.up {A F A' F' : List Nat} {s s' : zS} (h : kp A F s s') (hA : A.all (fun x => A'.contains x) = true) (hF : F.all (fun x => F'.contains x) = true) : kp A' F' s s' := ⟨h.1.up hA rfl, fun k hk => h.2 k (contains_up hF hk)⟩
theorem kp.sI {A F : List Nat} {s s' : zS} (h : kp A F s s') {k : Nat} {v : Int32} (hA : A.contains 21 = true) (hF : F.contains k = true) : kp A F s (setI s' 21 k v) :=
  ⟨h.1.sI (.inl hA), fun j hj => (gI_ne (.inr (fun e => by rw [e, hF] at hj; cases hj))).trans (h.2 j hj)⟩
theorem kp.of {A : List Nat} {s s' : zS} (h : fr A [] s s') (h21 : A.contains 21 = false) (F : List Nat) : kp A F s s' := ⟨h, fun k _ => congrFun (h.f h21 (by decide)) k⟩
theorem LN.mv {aa : Nat} {A B : List Nat} {s s' : zS} {l : List Int} (h : LN aa s l) (hf : fr A B s s') (c1 : A.contains aa = false) (c2 : A.contains (aa + 1) = false) (c3 : aa ≠ 24) (c4 : aa + 1 ≠ 24) : LN aa s' l := h.of (congrFun (hf.f c1 c3) 1) (hf.f c2 c4)
/-- the class's reader stands at p of what ends at e -/
def CT (s : zS) (l : List Int) (p e : Nat) : Prop := LN 1 s l ∧ asc l ∧ s.1 21 3 = zi p ∧ s.1 21 4 = zi e ∧ e ≤ l.length
theorem CT.len {s : zS} {l : List Int} {p e : Nat} (h : CT s l p e) : l.length ≤ 800 := h.1.2.2
theorem CT.go {A F : List Nat} {s s' : zS} {l : List Int} {p e q : Nat} (h : CT s l p e) (hk : kp A F s s') (c1 : A.contains 1 = false) (c2 : A.contains 2 = false) (c4 : F.contains 4 = false) (h3 : s'.1 21 3 = zi q) : CT s' l q e :=
  ⟨h.1.mv hk.1 c1 c2 (by decide) (by decide), h.2.1, h3, (hk.2 4 c4).trans h.2.2.2.1, h.2.2.2.2⟩
theorem CT.stay {A F : List Nat} {s s' : zS} {l : List Int} {p e : Nat} (h : CT s l p e) (hk : kp A F s s') (c1 : A.contains 1 = false) (c2 : A.contains 2 = false) (c4 : F.contains 4 = false) (c3 : F.contains 3 = false) : CT s' l p e := h.go hk c1 c2 c4 ((hk.2 3 c3).trans h.2.2.1)
theorem f137_eq {s : zS} {l : List Int} {p e : Nat} (h : CT s l p e) (hp : p ≤ e + 10) : f137 s = some (zi (ch l e p), s) := by
  have hl := h.len
  obtain ⟨h1, h2, h3, h4, h5⟩ := h
  unfold f137 ch
  rw [h3, h4]
  by_cases c : p < e
  · rw [if_neg (znge (by omega)), h1.at (by omega) (by omega), zb1_mk, if_pos c]
  · rw [if_pos (zge (by omega)), if_neg c]
/-- the reference's row, read up to e -/
def MT (s : zS) (l : List Int) (p e : Nat) : Prop := isL (s.1 25) l ∧ asc l ∧ s.1 24 38 = zi p ∧ s.1 24 39 = zi e ∧ e ≤ l.length ∧ l.length ≤ 800
theorem MT.mv {A B : List Nat} {s s' : zS} {l : List Int} {p e : Nat} (h : MT s l p e) (hf : fr A B s s') (c1 : A.contains 24 = false) (c2 : A.contains 25 = false) (b1 : B.contains 38 = false) (b2 : B.contains 39 = false) : MT s' l p e := by
  unfold MT
  rw [hf.f c2 (by decide), hf.1 24 38 c1 (fun _ => b1), hf.1 24 39 c1 (fun _ => b2)]
  exact h
theorem MT.byte {s : zS} {l : List Int} {p e : Nat} (h : MT s l p e) {i : Nat} (hi : i < l.length) : s.1 25 i = zi (atl l i) := by
  rw [h.1.get hi, atl_asc h.2.1 hi]
theorem f205_eq {s : zS} {l : List Int} {p e : Nat} (h : MT s l p e) {q : Nat} (hq : q < 2147483648) : f205 (zi q) s = some (zi (ch l e q), s) := by
  have h8 := h.2.2.2.2.2
  have h7 := h.2.2.2.2.1
  unfold f205 ch
  rw [h.2.2.2.1]
  by_cases c : q < e
  · rw [if_neg (znge (by omega)), if_pos (zi_ix (by omega) (by omega) (by omega)), if_pos c, zi_toNat hq, h.byte (by omega)]
  · rw [if_pos (zge (by omega)), if_neg c]
/-! trimming -/
def tr1 (l : List Int) : Nat → Nat → Nat
  | 0, i => i
  | d + 1, i => if atl l i ≤ 32 then tr1 l d (i + 1) else i
def tr2 (l : List Int) (p : Nat) : Nat → Nat
  | 0 => p
  | d + 1 => if atl l (p + d : Nat) ≤ 32 then tr2 l p d else p + d + 1
theorem tr1_le (l : List Int) : ∀ d i, tr1 l d i ≤ d + i
  | 0, i => by show i ≤ 0 + i; omega
  | d + 1, i => by
    show (if atl l i ≤ 32 then tr1 l d (i + 1) else i) ≤ d + 1 + i
    have := tr1_le l d (i + 1)
    split <;> omega
theorem tr2_le (l : List Int) (p : Nat) : ∀ d, p ≤ tr2 l p d ∧ tr2 l p d ≤ p + d
  | 0 => by show p ≤ p ∧ p ≤ p + 0; omega
  | d + 1 => by
    show p ≤ (if atl l (p + d : Nat) ≤ 32 then tr2 l p d else p + d + 1) ∧ (if atl l (p + d : Nat) ≤ 32 then tr2 l p d else p + d + 1) ≤ p + (d + 1)
    have := tr2_le l p d
    split <;> omega
def P0 (l : List Int) : Nat := tr1 l l.length 0
def E0 (l : List Int) : Nat := tr2 l (P0 l) (l.length - P0 l)
theorem PE (l : List Int) : P0 l ≤ E0 l ∧ E0 l ≤ l.length := by
  have h1 := tr1_le l l.length 0
  have h2 := tr2_le l (P0 l) (l.length - P0 l)
  unfold E0
  have : P0 l ≤ l.length := h1
  omega
theorem f136_56_loop {l : List Int} {p : Nat} : ∀ (d n : Nat) (s : zS), d < n → CT s l p (p + d) → ∃ s', f136_56 n s = some s' ∧ CT s' l p (tr2 l p d) ∧ kp [21] [3, 4] s s' := by
  intro d
  induction d with
  | zero =>
    intro n s hn h
    obtain ⟨n, rfl⟩ : ∃ k, n = k + 1 := ⟨n - 1, by omega⟩
    have hl := h.len
    have h5 := h.2.2.2.2
    refine ⟨s, ?_, h, kp.refl⟩
    show b136_56 (f136_56 n) s = _
    unfold b136_56
    rw [h.2.2.1, h.2.2.2.1, if_pos (zle (by omega))]
  | succ d ih =>
    intro n s hn h
    obtain ⟨n, rfl⟩ : ∃ k, n = k + 1 := ⟨n - 1, by omega⟩
    have hl := h.len
    obtain ⟨h1, h2, h3, h4, h5⟩ := h
    have e1 : zi ((p + (d + 1) : Nat) : Int) - zi 1 = zi ((p + d : Nat) : Int) := by rw [zi_sub]; exact congrArg zi (by omega)
    have hr := atl_asc_range h2 ((p + d : Nat) : Int)
    have body : f136_56 (n + 1) s = if zi (atl l (p + d : Nat)) > zi 32 then some s else f136_56 n (setI s 21 4 (zi ((p + d : Nat) : Int))) := by
      show b136_56 (f136_56 n) s = _
      unfold b136_56
      rw [h3, h4, if_neg (znle (by omega)), e1, h1.at (by omega) (by omega), zb1_mk, h4, e1]
    rw [body]
    show ∃ s', _ ∧ CT s' l p (if atl l (p + d : Nat) ≤ 32 then tr2 l p d else p + d + 1) ∧ _
    by_cases c : atl l (p + d : Nat) ≤ 32
    · rw [if_neg (zngt (by omega)), if_pos c]
      have hk : kp [21] [3, 4] s (setI s 21 4 (zi ((p + d : Nat) : Int))) := kp.refl.sI rfl rfl
      obtain ⟨s', a1, a2, a3⟩ := ih n (setI s 21 4 (zi ((p + d : Nat) : Int))) (by omega) ⟨h1.mv hk.1 rfl rfl (by decide) (by decide), h2, h3, rfl, by omega⟩
      exact ⟨s', a1, a2, hk.trans a3⟩
    · rw [if_pos (zgt (by omega)), if_neg c]
      exact ⟨s, rfl, ⟨h1, h2, h3, h4, h5⟩, kp.refl⟩
theorem f136_16_loop {l : List Int} : ∀ (d i n : Nat) (s : zS), d + i = l.length → d < n → CT s l i l.length → ∃ s', f136_16 n s = f136_56 zF s' ∧ CT s' l (tr1 l d i) l.length ∧ kp [21] [3, 4] s s' := by
  intro d
  induction d with
  | zero =>
    intro i n s hd hn h
    obtain ⟨n, rfl⟩ : ∃ k, n = k + 1 := ⟨n - 1, by omega⟩
    have hl := h.len
    refine ⟨s, ?_, h, kp.refl⟩
    show b136_16 (f136_16 n) s = _
    unfold b136_16
    rw [h.2.2.1, h.2.2.2.1, if_pos (zge (by omega))]
  | succ d ih =>
    intro i n s hd hn h
    obtain ⟨n, rfl⟩ : ∃ k, n = k + 1 := ⟨n - 1, by omega⟩
    have hl := h.len
    obtain ⟨h1, h2, h3, h4, h5⟩ := h
    have e1 : zi (i : Int) + zi 1 = zi ((i + 1 : Nat) : Int) := zi_add _ _
    have hr := atl_asc_range h2 (i : Int)
    have body : f136_16 (n + 1) s = if zi (atl l i) > zi 32 then f136_56 zF s else f136_16 n (setI s 21 3 (zi ((i + 1 : Nat) : Int))) := by
      show b136_16 (f136_16 n) s = _
      unfold b136_16
      rw [h3, h4, if_neg (znge (by omega)), h1.at (by omega) (by omega), zb1_mk, h3, e1]
    rw [body]
    show ∃ s', _ ∧ CT s' l (if atl l i ≤ 32 then tr1 l d (i + 1) else i) l.length ∧ _
    by_cases c : atl l i ≤ 32
    · rw [if_neg (zngt (by omega)), if_pos c]
      have hk : kp [21] [3, 4] s (setI s 21 3 (zi ((i + 1 : Nat) : Int))) := kp.refl.sI rfl rfl
      obtain ⟨s', a1, a2, a3⟩ := ih (i + 1) n (setI s 21 3 (zi ((i + 1 : Nat) : Int))) (by omega) (by omega) ⟨h1.mv hk.1 rfl rfl (by decide) (by decide), h2, rfl, h4, h5⟩
      exact ⟨s', a1, a2, hk.trans a3⟩
    · rw [if_pos (zgt (by omega)), if_neg c]
      exact ⟨s, rfl, ⟨h1, h2, h3, h4, h5⟩, kp.refl⟩
theorem f136_eq {s : zS} {l : List Int} (h : LN 1 s l) (ha : asc l) : ∃ s', f136 s = some s' ∧ CT s' l (P0 l) (E0 l) ∧ kp [21] [3, 4] s s' := by
  have hl : l.length ≤ 800 := h.2.2
  have hk : kp [21] [3, 4] s (setI (setI s 21 3 (zi 0)) 21 4 (zi l.length)) := (kp.refl.sI rfl rfl).sI rfl rfl
  obtain ⟨s1, a1, a2, a3⟩ := f136_16_loop l.length 0 zF (setI (setI s 21 3 (zi 0)) 21 4 (zi l.length)) (by omega) (by unfold zF; omega) ⟨h.mv hk.1 rfl rfl (by decide) (by decide), ha, rfl, rfl, Nat.le_refl _⟩
  have hP : P0 l ≤ l.length := tr1_le l l.length 0
  have e : P0 l + (l.length - P0 l) = l.length := by omega
  obtain ⟨s2, b1, b2, b3⟩ := f136_56_loop (p := P0 l) (l.length - P0 l) zF s1 (by unfold zF; omega) (by rw [e]; exact a2)
  refine ⟨s2, ?_, b2, (hk.trans a3).trans b3⟩
  unfold f136
  have e2 : r16 1 (setI s 21 3 (zi 0)) = zi l.length := h.1
  rw [e2, a1, b1]
theorem f208_51_loop {l : List Int} {p : Nat} {x1 : Int32} : ∀ (d n : Nat) (s : zS), d < n → MT s l p (p + d) → ∃ s', f208_51 n x1 s = f208_91 x1 s' ∧ MT s' l p (tr2 l p d) ∧ fr [] [38, 39] s s' := by
  intro d
  induction d with
  | zero =>
    intro n s hn h
    obtain ⟨n, rfl⟩ : ∃ k, n = k + 1 := ⟨n - 1, by omega⟩
    have h5 := h.2.2.2.2
    refine ⟨s, ?_, h, fr.refl⟩
    show b208_51 (f208_51 n) x1 s = _
    unfold b208_51
    rw [h.2.2.1, h.2.2.2.1, if_pos (zle (by omega))]
  | succ d ih =>
    intro n s hn h
    obtain ⟨n, rfl⟩ : ∃ k, n = k + 1 := ⟨n - 1, by omega⟩
    have hb := h.byte (i := p + d) (by have := h.2.2.2.2.1; omega)
    obtain ⟨h1, h2, h3, h4, h5, h6⟩ := h
    have e1 : zi ((p + (d + 1) : Nat) : Int) - zi 1 = zi ((p + d : Nat) : Int) := by rw [zi_sub]; exact congrArg zi (by omega)
    have hr := atl_asc_range h2 ((p + d : Nat) : Int)
    have hb' : s.1 25 (zi ((p + d : Nat) : Int)).toNatClampNeg = zi (atl l (p + d : Nat)) := by rw [zi_toNat (by omega)]; exact hb
    have body : f208_51 (n + 1) x1 s = if zi (atl l (p + d : Nat)) > zi 32 then f208_91 x1 s else f208_51 n x1 (setI s 24 39 (zi ((p + d : Nat) : Int))) := by
      show b208_51 (f208_51 n) x1 s = _
      unfold b208_51
      rw [h3, h4, if_neg (znle (by omega)), e1, if_pos (zi_ix (by omega) (by omega) (by omega)), hb']
    rw [body]
    show ∃ s', _ ∧ MT s' l p (if atl l (p + d : Nat) ≤ 32 then tr2 l p d else p + d + 1) ∧ _
    by_cases c : atl l (p + d : Nat) ≤ 32
    · rw [if_neg (zngt (by omega)), if_pos c]
      obtain ⟨s', a1, a2, a3⟩ := ih n (setI s 24 39 (zi ((p + d : Nat) : Int))) (by omega) ⟨h1, h2, h3, rfl, by omega, h6⟩
      exact ⟨s', a1, a2, (fr.refl.sI (.inr ⟨rfl, rfl⟩)).trans a3⟩
    · rw [if_pos (zgt (by omega)), if_neg c]
      exact ⟨s, rfl, ⟨h1, h2, h3, h4, h5, h6⟩, fr.refl⟩
theorem f208_13_loop {l : List Int} {x1 : Int32} : ∀ (d i n : Nat) (s : zS), d + i = l.length → d < n → MT s l i l.length → ∃ s', f208_13 n x1 s = f208_51 zF x1 s' ∧ MT s' l (tr1 l d i) l.length ∧ fr [] [38, 39] s s' := by
  intro d
  induction d with
  | zero =>
    intro i n s hd hn h
    obtain ⟨n, rfl⟩ : ∃ k, n = k + 1 := ⟨n - 1, by omega⟩
    have h5 := h.2.2.2.2
    refine ⟨s, ?_, h, fr.refl⟩
    show b208_13 (f208_13 n) x1 s = _
    unfold b208_13
    rw [h.2.2.1, h.2.2.2.1, if_pos (zge (by omega))]
  | succ d ih =>
    intro i n s hd hn h
    obtain ⟨n, rfl⟩ : ∃ k, n = k + 1 := ⟨n - 1, by omega⟩
    have hb := h.byte (i := i) (by omega)
    obtain ⟨h1, h2, h3, h4, h5, h6⟩ := h
    have e1 : zi (i : Int) + zi 1 = zi ((i + 1 : Nat) : Int) := zi_add _ _
    have hr := atl_asc_range h2 (i : Int)
    have hb' : s.1 25 (zi (i : Int)).toNatClampNeg = zi (atl l i) := by rw [zi_toNat (by omega)]; exact hb
    have body : f208_13 (n + 1) x1 s = if zi (atl l i) > zi 32 then f208_51 zF x1 s else f208_13 n x1 (setI s 24 38 (zi ((i + 1 : Nat) : Int))) := by
      show b208_13 (f208_13 n) x1 s = _
      unfold b208_13
      rw [h3, h4, if_neg (znge (by omega)), if_pos (zi_ix (by omega) (by omega) (by omega)), hb', e1]
    rw [body]
    show ∃ s', _ ∧ MT s' l (if atl l i ≤ 32 then tr1 l d (i + 1) else i) l.length ∧ _
    by_cases c : atl l i ≤ 32
    · rw [if_neg (zngt (by omega)), if_pos c]
      obtain ⟨s', a1, a2, a3⟩ := ih (i + 1) n (setI s 24 38 (zi ((i + 1 : Nat) : Int))) (by omega) (by omega) ⟨h1, h2, rfl, h4, h5, h6⟩
      exact ⟨s', a1, a2, (fr.refl.sI (.inr ⟨rfl, rfl⟩)).trans a3⟩
    · rw [if_pos (zgt (by omega)), if_neg c]
      exact ⟨s, rfl, ⟨h1, h2, h3, h4, h5, h6⟩, fr.refl⟩
theorem f208_trim {s : zS} {l : List Int} (h : MN 4 25 s l) (ha : asc l) (hl : l.length ≤ 800) (x1 : Int32) : ∃ s', f208 x1 s = f208_91 x1 s' ∧ MT s' l (P0 l) (E0 l) ∧ fr [] [38, 39] s s' := by
  have hk : fr [] [38, 39] s (setI (setI s 24 38 (zi 0)) 24 39 (s.1 24 4)) := (fr.refl.sI (.inr ⟨rfl, rfl⟩)).sI (.inr ⟨rfl, rfl⟩)
  obtain ⟨s1, a1, a2, a3⟩ := f208_13_loop (x1 := x1) l.length 0 zF (setI (setI s 24 38 (zi 0)) 24 39 (s.1 24 4)) (by omega) (by unfold zF; omega) ⟨h.2, ha, rfl, h.1, Nat.le_refl _, hl⟩
  have hP : P0 l ≤ l.length := tr1_le l l.length 0
  have e : P0 l + (l.length - P0 l) = l.length := by omega
  obtain ⟨s2, b1, b2, b3⟩ := f208_51_loop (p := P0 l) (x1 := x1) (l.length - P0 l) zF s1 (by unfold zF; omega) (by rw [e]; exact a2)
  refine ⟨s2, ?_, b2, (hk.trans a3).trans b3⟩
  unfold f208
  rw [a1, b1]
/-! a sign -/
def sg (l : List Int) (e p : Nat) : Nat := if ch l e p = 43 ∨ ch l e p = 45 then p + 1 else p
def ng (l : List Int) (e p : Nat) : Int := if ch l e p = 45 then 1 else 0
theorem sg_le {l : List Int} {e p : Nat} (h : p ≤ e) : p ≤ sg l e p ∧ sg l e p ≤ e := by
  unfold sg
  by_cases c : ch l e p = 43 ∨ ch l e p = 45
  · rw [if_pos c]
    have : p < e := by
      rcases Nat.lt_or_ge p e with q | q
      · exact q
      · unfold ch at c
        rw [if_neg (by omega)] at c
        omega
    omega
  · rw [if_neg c]
    omega
theorem ng_bit (l : List Int) (e p : Nat) : ng l e p = 0 ∨ ng l e p = 1 := by
  unfold ng
  split
  · exact .inr rfl
  · exact .inl rfl
theorem f138_eq {s : zS} {l : List Int} {p e : Nat} (h : CT s l p e) (hp : p ≤ e) : ∃ s', f138 s = some (zi (ng l e p), s') ∧ CT s' l (sg l e p) e ∧ kp [21] [3] s s' := by
  have hr := ch_rng h.2.1 e p
  have e1 : s.1 21 3 + zi 1 = zi ((p + 1 : Nat) : Int) := by rw [h.2.2.1]; exact zi_add _ _
  have hk : kp [21] [3] s (setI s 21 3 (zi ((p + 1 : Nat) : Int))) := kp.refl.sI rfl rfl
  have hC : CT (setI s 21 3 (zi ((p + 1 : Nat) : Int))) l (p + 1) e := h.go hk rfl rfl rfl rfl
  unfold f138 f138_27 sg ng
  rw [f137_eq h (by omega), zb1_mk, e1]
  by_cases c : ch l e p = 43
  · rw [c, if_pos rfl, if_pos (zne (by omega)), if_neg (by decide), if_pos (.inl rfl)]
    exact ⟨_, rfl, hC, hk⟩
  · by_cases c2 : ch l e p = 45
    · rw [c2, if_neg (zne (by omega)), if_neg (not_not_intro rfl), if_neg (not_not_intro rfl), if_pos rfl, if_pos (.inr rfl)]
      exact ⟨_, rfl, hC, hk⟩
    · rw [if_neg (zne (by omega)), if_pos (zne (by omega)), if_pos (zne (by omega)), if_neg c2, if_neg (fun q => q.elim c c2)]
      exact ⟨s, rfl, h, kp.refl⟩
/-! a word -/
def isW (l w : List Int) (e p : Nat) : Prop := e = p + w.length ∧ ∀ i v, w[i]? = some v → atl l (p + i : Nat) = v
theorem f139_loop {s : zS} {l : List Int} {p e c : Nat} (h : CT s l p e) (hc : c < 78) (he : e = p + (lit c).length) : ∀ (d i n : Nat), d + i = (lit c).length → d < n → (∀ j v, j < i → (lit c)[j]? = some v → atl l (p + j : Nat) = v) → ∃ y : Int, f139_20 n c (zi i) s = some (zi y, s) ∧ (y = 0 ∨ y = 1) ∧ (y = 1 ↔ isW l (lit c) e p) := by
  have hl := h.len
  have h5 := h.2.2.2.2
  have hs := lit_small hc
  have ez : zlen c = zi (lit c).length := by
    unfold zlen
    rw [lit_len]
  intro d
  induction d with
  | zero =>
    intro i n hd hn hz
    obtain ⟨n, rfl⟩ : ∃ k, n = k + 1 := ⟨n - 1, by omega⟩
    refine ⟨1, ?_, .inr rfl, fun _ => ⟨he, fun j v hv => hz j v ?_ hv⟩, fun _ => rfl⟩
    · show b139_20 (f139_20 n) _ _ _ = _
      unfold b139_20
      rw [ez, if_pos (zge (by omega))]
    · rcases Nat.lt_or_ge j (lit c).length with q | q
      · omega
      · rw [List.getElem?_eq_none q] at hv
        cases hv
  | succ d ih =>
    intro i n hd hn hz
    obtain ⟨n, rfl⟩ : ∃ k, n = k + 1 := ⟨n - 1, by omega⟩
    have hi : i < (lit c).length := by omega
    have hv := lit_asc hc _ (List.getElem_mem hi)
    have hr := atl_asc_range h.2.1 ((p + i : Nat) : Int)
    have e1 : s.1 21 3 + zi (i : Int) = zi ((p + i : Nat) : Int) := by rw [h.2.2.1]; exact zi_add _ _
    have e2 : zi (i : Int) + zi 1 = zi ((i + 1 : Nat) : Int) := zi_add _ _
    have body : f139_20 (n + 1) c (zi i) s = if zi (atl l (p + i : Nat)) = zi (lit c)[i] then f139_20 n c (zi ((i + 1 : Nat) : Int)) s else some (zi 0, s) := by
      show b139_20 (f139_20 n) _ _ _ = _
      unfold b139_20
      rw [ez, if_neg (znge (by omega)), e1, h.1.at (by omega) (by omega), zb1_mk, ← lit_len, if_pos (zi_ix (by omega) (by omega) (by omega)), zchr_eq hi (by omega), e2]
    rw [body]
    by_cases q : atl l (p + i : Nat) = (lit c)[i]
    · rw [if_pos (zeq q)]
      refine ih (i + 1) n (by omega) (by omega) (fun j v hj hjv => ?_)
      by_cases g : j = i
      · rw [g, List.getElem?_eq_getElem hi] at hjv
        rw [g, q]
        exact Option.some.inj hjv
      · exact hz j v (by omega) hjv
    · rw [if_neg (zne (by omega))]
      refine ⟨0, rfl, .inl rfl, fun g => by omega, fun g => ?_⟩
      exact absurd (g.2 i _ (List.getElem?_eq_getElem hi)) q
theorem f139_eq {s : zS} {l : List Int} {p e c : Nat} (h : CT s l p e) (hp : p ≤ e) (hc : c < 78) : ∃ y : Int, f139 c s = some (zi y, s) ∧ (y = 0 ∨ y = 1) ∧ (y = 1 ↔ isW l (lit c) e p) := by
  have hl := h.len
  have h5 := h.2.2.2.2
  have hs := lit_small hc
  have ez : zlen c = zi (lit c).length := by
    unfold zlen
    rw [lit_len]
  unfold f139
  rw [h.2.2.1, h.2.2.2.1, zi_sub, ez]
  by_cases q : e = p + (lit c).length
  · rw [if_pos (zeq (by omega))]
    exact f139_loop h hc q (lit c).length 0 zF (by omega) (by unfold zF; omega) (fun j v hj => by omega)
  · rw [if_neg (zne (by omega))]
    exact ⟨0, rfl, .inl rfl, fun g => by omega, fun g => absurd g.1 q⟩
theorem f207_loop {s : zS} {l : List Int} {p e c : Nat} (h : MT s l p e) (hc : c < 78) (he : e = p + (lit c).length) : ∀ (d i n : Nat), d + i = (lit c).length → d < n → (∀ j v, j < i → (lit c)[j]? = some v → atl l (p + j : Nat) = v) → ∃ y : Int, f207_20 n c (zi i) s = some (zi y, s) ∧ (y = 0 ∨ y = 1) ∧ (y = 1 ↔ isW l (lit c) e p) := by
  have h5 := h.2.2.2.2
  have hs := lit_small hc
  have ez : zlen c = zi (lit c).length := by
    unfold zlen
    rw [lit_len]
  intro d
  induction d with
  | zero =>
    intro i n hd hn hz
    obtain ⟨n, rfl⟩ : ∃ k, n = k + 1 := ⟨n - 1, by omega⟩
    refine ⟨1, ?_, .inr rfl, fun _ => ⟨he, fun j v hv => hz j v ?_ hv⟩, fun _ => rfl⟩
    · show b207_20 (f207_20 n) _ _ _ = _
      unfold b207_20
      rw [ez, if_pos (zge (by omega))]
    · rcases Nat.lt_or_ge j (lit c).length with q | q
      · omega
      · rw [List.getElem?_eq_none q] at hv
        cases hv
  | succ d ih =>
    intro i n hd hn hz
    obtain ⟨n, rfl⟩ : ∃ k, n = k + 1 := ⟨n - 1, by omega⟩
    have hi : i < (lit c).length := by omega
    have hv := lit_asc hc _ (List.getElem_mem hi)
    have hr := atl_asc_range h.2.1 ((p + i : Nat) : Int)
    have e1 : s.1 24 38 + zi (i : Int) = zi ((p + i : Nat) : Int) := by rw [h.2.2.1]; exact zi_add _ _
    have e2 : zi (i : Int) + zi 1 = zi ((i + 1 : Nat) : Int) := zi_add _ _
    have hb : s.1 25 (zi ((p + i : Nat) : Int)).toNatClampNeg = zi (atl l (p + i : Nat)) := by
      rw [zi_toNat (by omega)]
      exact h.byte (by omega)
    have body : f207_20 (n + 1) c (zi i) s = if zi (atl l (p + i : Nat)) = zi (lit c)[i] then f207_20 n c (zi ((i + 1 : Nat) : Int)) s else some (zi 0, s) := by
      show b207_20 (f207_20 n) _ _ _ = _
      unfold b207_20
      rw [ez, if_neg (znge (by omega)), e1, if_pos (zi_ix (by omega) (by omega) (by omega)), hb, ← lit_len, if_pos (zi_ix (by omega) (by omega) (by omega)), zchr_eq hi (by omega), e2]
    rw [body]
    by_cases q : atl l (p + i : Nat) = (lit c)[i]
    · rw [if_pos (zeq q)]
      refine ih (i + 1) n (by omega) (by omega) (fun j v hj hjv => ?_)
      by_cases g : j = i
      · rw [g, List.getElem?_eq_getElem hi] at hjv
        rw [g, q]
        exact Option.some.inj hjv
      · exact hz j v (by omega) hjv
    · rw [if_neg (zne (by omega))]
      refine ⟨0, rfl, .inl rfl, fun g => by omega, fun g => ?_⟩
      exact absurd (g.2 i _ (List.getElem?_eq_getElem hi)) q
theorem f207_eq {s : zS} {l : List Int} {p e c : Nat} (h : MT s l p e) (hp : p ≤ e) (hc : c < 78) : ∃ y : Int, f207 c s = some (zi y, s) ∧ (y = 0 ∨ y = 1) ∧ (y = 1 ↔ isW l (lit c) e p) := by
  have h5 := h.2.2.2.2
  have hs := lit_small hc
  have ez : zlen c = zi (lit c).length := by
    unfold zlen
    rw [lit_len]
  unfold f207
  rw [h.2.2.1, h.2.2.2.1, zi_sub, ez]
  by_cases q : e = p + (lit c).length
  · rw [if_pos (zeq (by omega))]
    exact f207_loop h hc q (lit c).length 0 zF (by omega) (by unfold zF; omega) (fun j v hj => by omega)
  · rw [if_neg (zne (by omega))]
    exact ⟨0, rfl, .inl rfl, fun g => by omega, fun g => absurd g.1 q⟩
theorem lit_words : lit 53 = lit 63 ∧ lit 54 = lit 64 := by decide +kernel
