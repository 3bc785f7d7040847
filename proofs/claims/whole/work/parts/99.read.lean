/-! both read alike -/
/-- where the reference ends: without f F d D -/
def EP (l : List Int) (e p e' : Nat) : Prop := (e' = e ∧ ¬ (p < e ∧ isS (ch l e (e - 1)))) ∨ (p < e ∧ e' + 1 = e ∧ isS (ch l e e'))
theorem EP.le {l : List Int} {e p e' : Nat} (h : EP l e p e') (hp : p ≤ e) : p ≤ e' ∧ e' ≤ e := by
  rcases h with h | h
  · omega
  · omega
theorem ch_ep {l : List Int} {e e' q : Nat} (h : e' ≤ e) (hq : q < e') : ch l e' q = ch l e q := by
  unfold ch
  rw [if_pos hq, if_pos (by omega)]
theorem isS_dg10 {c : Int} (h : isS c) : dgc 10 c = -1 ∧ c ≠ 46 ∧ 0 ≤ dgc 16 c := by
  unfold isS at h
  rcases h with rfl | rfl | rfl | rfl <;> decide
theorem stp10 {l : List Int} {e p e' K : Nat} (h : EP l e p e') (hS : STP 10 l e p K) : STP 10 l e' p K := by
  rcases h with ⟨rfl, _⟩ | ⟨h1, h2, h3⟩
  · exact hS
  · have hc : ch l e e' = atl l e' := if_pos (by omega)
    rw [hc] at h3
    obtain ⟨s1, s2, s3⟩ := isS_dg10 h3
    refine ⟨fun k hk => ?_, fun g => hS.2 ⟨by have := g.1; omega, g.2⟩⟩
    obtain ⟨g1, g2⟩ := hS.1 k hk
    refine ⟨?_, g2⟩
    rcases Nat.lt_or_ge (p + k) e' with q | q
    · exact q
    · exfalso
      have e1 : p + k = e' := by omega
      rw [e1] at g2
      rcases g2 with g2 | g2
      · omega
      · exact s2 g2.1
theorem stp16 {l : List Int} {e p e' K : Nat} (h : EP l e p e') (hp : p ≤ e) (hx : HX l e p) (hS : STP 16 l e (p + 2) K) : p + 2 ≤ e' ∧ ((p + 2 + K ≤ e' ∧ STP 16 l e' (p + 2) K) ∨ (p + 2 + K = e ∧ e' + 1 = e ∧ ∃ K', STP 16 l e' (p + 2) K' ∧ p + 2 + K' = e')) := by
  have hin : p + 1 < e := ch_in (l := l) (by have := hx.2; omega)
  have hle := hS.le (by omega)
  rcases h with ⟨rfl, _⟩ | ⟨h1, h2, h3⟩
  · exact ⟨by omega, .inl ⟨hle, hS⟩⟩
  · have hp2 : p + 2 ≤ e' := by
      rcases Nat.lt_or_ge (p + 1) e' with q | q
      · omega
      · exfalso
        have e1 : p + 1 = e' := by omega
        have := hx.2
        rw [e1] at this
        unfold isS at h3
        omega
    refine ⟨hp2, ?_⟩
    have hc : ch l e e' = atl l e' := if_pos (by omega)
    rw [hc] at h3
    obtain ⟨s1, s2, s3⟩ := isS_dg10 h3
    have hne : p + 2 + K ≠ e' := by
      intro q
      exact hS.2 ⟨by omega, .inl (by rw [q]; exact s3)⟩
    rcases Nat.lt_or_ge (p + 2 + K) e' with q | q
    · left
      refine ⟨by omega, fun k hk => ⟨by omega, (hS.1 k hk).2⟩, fun g => hS.2 ⟨by have := g.1; omega, g.2⟩⟩
    · right
      refine ⟨by omega, h2, K - 1, ⟨fun k hk => ⟨by omega, (hS.1 k (by omega)).2⟩, fun g => by have := g.1; omega⟩, by omega⟩
theorem dst_ep {l : List Int} {e e' r J : Nat} (h2 : e' + 1 = e) (h3 : isS (ch l e e')) (hD : DST l e r J) : DST l e' r J := by
  have hc : ch l e e' = atl l e' := if_pos (by omega)
  rw [hc] at h3
  refine ⟨fun j hj => ?_, fun g => hD.2 ⟨by have := g.1; omega, g.2⟩⟩
  obtain ⟨g1, g2⟩ := hD.1 j hj
  refine ⟨?_, g2⟩
  rcases Nat.lt_or_ge (r + j) e' with q | q
  · exact q
  · exfalso
    have e1 : r + j = e' := by omega
    rw [e1] at g2
    unfold isS at h3
    omega
theorem expo_ge {l : List Int} {e q q' : Nat} {hh yy ex : Int} (hX : EXPO l e hh q yy ex q') : q ≤ q' := by
  rcases hX with ⟨x1, J, x2, x3, x4, x5⟩ | ⟨x1, x2, x3, x4⟩
  · have hin : q < e := ch_in (l := l) (by unfold isE at x1; omega)
    have := sg_le (l := l) (e := e) (p := q + 1) (by omega)
    omega
  · omega
theorem expo_ep {l : List Int} {e p e' q q' : Nat} {hh yy ex : Int} (h : EP l e p e') (hp : p ≤ e) (hq : p ≤ q) (hq2 : q ≤ e') (hX : EXPO l e hh q yy ex q') : EXPO l e' hh q yy ex q' ∧ p ≤ q' ∧ q' ≤ e' := by
  have hge := expo_ge hX
  rcases h with ⟨rfl, _⟩ | ⟨h1, h2, h3⟩
  · exact ⟨hX, by omega, (hX.rng hq2).1⟩
  · rcases hX with ⟨x1, J, x2, x3, x4, x5⟩ | ⟨x1, x2, x3, x4⟩
    · have hin : q < e := ch_in (l := l) (by unfold isE at x1; omega)
      have hqe : q < e' := by
        rcases Nat.lt_or_ge q e' with w | w
        · exact w
        · exfalso
          have e1 : q = e' := by omega
          rw [e1] at x1
          unfold isE at x1
          unfold isS at h3
          omega
      have c1 : ch l e' q = ch l e q := ch_ep (by omega) hqe
      have cc : (ch l e' (q + 1) = ch l e (q + 1)) ∨ (isS (ch l e (q + 1)) ∧ ch l e' (q + 1) = -1) := by
        rcases Nat.lt_or_ge (q + 1) e' with w | w
        · exact .inl (ch_ep (by omega) w)
        · right
          have e1 : q + 1 = e' := by omega
          rw [e1]
          exact ⟨h3, if_neg (by omega)⟩
      have c2 : sg l e' (q + 1) = sg l e (q + 1) ∧ ng l e' (q + 1) = ng l e (q + 1) := by
        unfold sg ng
        rcases cc with w | ⟨w1, w2⟩
        · rw [w]
          exact ⟨rfl, rfl⟩
        · unfold isS at w1
          rw [w2, if_neg (by omega), if_neg (by omega), if_neg (by omega), if_neg (by omega)]
          exact ⟨rfl, rfl⟩
      have hD := dst_ep h2 h3 x2
      have hsg := sg_le (l := l) (e := e') (p := q + 1) (by omega)
      rw [c2.1] at hsg
      have hle := hD.le (by omega)
      refine ⟨.inl ⟨by rw [c1]; exact x1, J, by rw [c2.1]; exact hD, by rw [c2.1]; exact x3, by rw [c2.1, c2.2]; exact x4, x5⟩, by omega, by omega⟩
    · refine ⟨.inr ⟨fun g => x1 ?_, x2, x3, x4⟩, by omega, by omega⟩
      have hin : q < e' := ch_in (l := l) (by unfold isE at g; omega)
      rw [ch_ep (e := e) (by omega) hin] at g
      exact g
theorem acc_ep {l : List Int} {e p e' q' : Nat} (h : EP l e p e') (hq : p ≤ q') (hq2 : q' ≤ e') : AC l e q' ↔ q' = e' := by
  unfold AC
  rcases h with ⟨rfl, h1⟩ | ⟨h1, h2, h3⟩
  · constructor
    · intro g
      rcases g with g | ⟨g1, g2⟩
      · exact g
      · exfalso
        refine h1 ⟨by omega, ?_⟩
        have e1 : e' - 1 = q' := by omega
        rw [e1]
        exact g2
    · intro g
      exact .inl g
  · constructor
    · intro g
      omega
    · intro g
      right
      refine ⟨by omega, ?_⟩
      rw [g]
      exact h3
/-! signs -/
def sgb (ngv sm : Int) : Int := if ngv = 0 then 0 else if sm = 0 then -9223372036854775808 else 2147483648
def mfn (sm : Int) (w : Int64) : Int64 := if sm = 0 then w else zI2L (zL2I w)
theorem lor0 (x : Int64) : zl 0 ||| x = x := by
  show (0 : Int64) ||| x = x
  exact Int64.zero_or
theorem lor_comm (x y : Int64) : x ||| y = y ||| x := Int64.or_comm x y
theorem mfn_eq {ngv sm : Int} (hn : ngv = 0 ∨ ngv = 1) (hs : sm = 0 ∨ sm = 1) {b : Nat} (hb : b ≤ infU sm) : mfn sm (zl (sgb ngv sm) ||| zl b) = sgv2 ngv sm b := by
  unfold mfn sgb sgv2
  rcases hn with rfl | rfl
  · rw [if_pos rfl, if_pos rfl, lor0]
    rcases hs with rfl | rfl
    · rw [if_pos rfl]
    · have hi : infU 1 = 2139095040 := rfl
      rw [hi] at hb
      rw [if_neg (show ¬ (1 : Int) = 0 by decide), zL2I_zl, zI2L_zi (by omega) (by omega)]
  · rw [if_neg (show ¬ (1 : Int) = 0 by decide), if_neg (show ¬ (1 : Int) = 0 by decide)]
    rcases hs with rfl | rfl
    · rw [if_pos rfl, if_pos rfl, if_pos rfl, lor_comm]
    · have n : ¬ (1 : Int) = 0 := by decide
      rw [if_neg n, if_neg n, if_neg n, lor_comm]
/-! the reference's reads -/
theorem f208_91_eq {s : zS} {l : List Int} {p e : Nat} {sm : Int} (hs : sm = 0 ∨ sm = 1) (hM : MT s l p e) (hp : p ≤ e) : ∃ s', f208_91 (zi sm) s = f208_172 (zi sm) (zl (infU sm : Nat)) (zl (sgb (ng l e p) sm)) s' ∧ MT s' l (sg l e p) e ∧ fr [] [38] s s' := by
  have g5 := hM.2.2.2.2.1
  have g6 := hM.2.2.2.2.2
  have hr := ch_rng hM.2.1 e p
  have h137 : ∀ (ngv : Int) (s' : zS), (ngv = 0 ∨ ngv = 1) → f208_137 (zi sm) (zi ngv) s' = f208_172 (zi sm) (zl (infU sm : Nat)) (zl (sgb ngv sm)) s' := by
    intro ngv s' hn
    unfold f208_137 f208_150 sgb
    have n : ¬ zi 1 = zi 0 := zne (by omega)
    have n' : ¬ (1 : Int) = 0 := by decide
    rcases hs with rfl | rfl
    · rw [if_pos rfl]
      rcases hn with rfl | rfl
      · rw [if_pos rfl, if_pos rfl]
        rfl
      · rw [if_neg n, if_pos rfl, if_neg n', if_pos rfl]
        rfl
    · rw [if_neg n]
      rcases hn with rfl | rfl
      · rw [if_pos rfl, if_pos rfl]
        rfl
      · rw [if_neg n, if_neg n, if_neg n', if_neg n']
        rfl
  have e1 : s.1 24 38 + zi 1 = zi ((p + 1 : Nat) : Int) := by rw [hM.2.2.1]; exact zi_add _ _
  have hM1 : MT (setI s 24 38 (zi ((p + 1 : Nat) : Int))) l (p + 1) e := ⟨hM.1, hM.2.1, rfl, hM.2.2.2.1, g5, g6⟩
  have hf1 : fr [] [38] s (setI s 24 38 (zi ((p + 1 : Nat) : Int))) := fr.refl.sI (.inr ⟨rfl, rfl⟩)
  have h205 : f205 (s.1 24 38) s = some (zi (ch l e p), s) := by rw [hM.2.2.1]; exact f205_eq hM (by omega)
  unfold f208_91 f208_109 sg
  rw [h205, zb1_mk, e1]
  by_cases c1 : ch l e p = 45
  · have en : ng l e p = 1 := if_pos c1
    rw [if_neg (not_not_intro (zeq c1)), if_pos (zne (by omega)), if_pos (.inr c1), en, h137 1 _ (.inr rfl)]
    exact ⟨_, rfl, hM1, hf1⟩
  · have en : ng l e p = 0 := if_neg c1
    rw [if_pos (zne (by omega)), if_neg (not_not_intro rfl), h205, zb1_mk, en, e1]
    by_cases c2 : ch l e p = 43
    · rw [if_neg (not_not_intro (zeq c2)), if_pos (.inl c2), h137 0 _ (.inl rfl)]
      exact ⟨_, rfl, hM1, hf1⟩
    · rw [if_pos (zne (by omega)), if_neg (fun q => q.elim c2 c1), h137 0 _ (.inl rfl)]
      exact ⟨s, rfl, hM, fr.refl⟩
/-- what the reference must answer where the class found y and v -/
def ANS (s s' : zS) (sm y : Int) (v w : Int64) : Prop := fr [32, 33] [38, 39, 40] s s' ∧ D6 32 s' ∧ ((y = 1 ∧ s'.1 24 40 = zi 1 ∧ mfn sm w = v) ∨ (y = 0 ∧ s'.1 24 40 = zi 0))
theorem f208_331_eq {s : zS} {l : List Int} {p e e' Z Y : Nat} {sm ngv h y : Int} {v : Int64} (hs : sm = 0 ∨ sm = 1) (hn : ngv = 0 ∨ ngv = 1) (hM : MT s l p e') (hE : EP l e p e') (hp : p ≤ e) (h40 : s.1 24 40 = zi 1) (h6 : D6 32 s) (hh : (h = 0 ∧ ¬ HX l e p) ∨ (h = 1 ∧ HX l e p)) (hF : FIND Z Y l e p ngv sm h y v) (hZ : 400000 ≤ Z) (hY : 400000 ≤ Y) : ∃ w s', f208_331 (zi sm) (zl (sgb ngv sm)) (zi h) s = some (w, s') ∧ ANS s s' sm y v w := by
  have hpe := hE.le hp
  obtain ⟨K, yy, ex, q', f1, f2, f3, f4, f5⟩ := hF
  unfold f208_331
  rcases hh with ⟨rfl, nx⟩ | ⟨rfl, hx⟩
  · have e0 : q0x 0 p = p := rfl
    have eb : bsx 0 = 10 := rfl
    rw [eb, e0] at f1
    rw [e0] at f2 f4 f5
    have hS := stp10 hE f1
    have hK := hS.le hpe.1
    obtain ⟨hX, hq1, hq2⟩ := expo_ep hE hp (show p ≤ p + K by omega) hK f2
    have hac := acc_ep hE hq1 hq2
    obtain ⟨b', s', a1, a2, a3, a4⟩ := f210_eq (Z := Z) (Y := Y) hs hM hpe.1 hS hX h40 h6 hZ hY
    rw [if_pos rfl, a1, zb1_mk]
    refine ⟨_, s', rfl, a2.up rfl rfl, a3, ?_⟩
    rcases a4 with ⟨⟨k1, k2, k3⟩, k4, k5⟩ | ⟨k1, k2⟩
    · have hy : y = 1 := f4.mpr ⟨k2, k1, hac.mpr k3⟩
      obtain ⟨b, g1, g2⟩ := f5 hy
      rcases g1 with ⟨_, g1⟩ | ⟨g0, _⟩
      · have hbb : b' = b := RN.uniq hs (p_pos _) (by omega) k5 g1
        refine .inl ⟨hy, k4, ?_⟩
        rw [hbb, g2]
        exact mfn_eq hn hs (RN.le hs (p_pos _) g1)
      · exact absurd g0 (by decide)
    · right
      refine ⟨?_, k2⟩
      rcases f3 with w | w
      · exact w
      · obtain ⟨w1, w2, w3⟩ := f4.mp w
        exact absurd ⟨w2, w1, hac.mp w3⟩ k1
  · have e0 : q0x 1 p = p + 2 := rfl
    have eb : bsx 1 = 16 := rfl
    rw [eb, e0] at f1
    rw [e0] at f2 f4 f5
    obtain ⟨hp2, hcase⟩ := stp16 hE hp hx f1
    rw [if_neg (zne (by omega))]
    rcases hcase with ⟨hK, hS⟩ | ⟨hKe, hee, K', hS, hK'⟩
    · obtain ⟨hX, hq1, hq2⟩ := expo_ep hE hp (show p ≤ p + 2 + K by omega) hK f2
      have hac := acc_ep hE hq1 hq2
      obtain ⟨b', s', a1, a2, a4⟩ := f215_eq (Z := Z) hs hM hp2 hS hX h40 hZ
      rw [a1, zb1_mk]
      refine ⟨_, s', rfl, a2.up rfl rfl, h6.fr a2 rfl rfl (by decide) (by decide), ?_⟩
      rcases a4 with ⟨⟨k1, k2, k3⟩, k4, k5⟩ | ⟨k1, k2⟩
      · have hy : y = 1 := f4.mpr ⟨k2, k1, hac.mpr k3⟩
        obtain ⟨b, g1, g2⟩ := f5 hy
        rcases g1 with ⟨g0, _⟩ | ⟨_, g1⟩
        · exact absurd g0 (by decide)
        · have hbb : b' = b := RN.uniq hs (by decide) (by omega) k5 g1
          refine .inl ⟨hy, k4, ?_⟩
          rw [hbb, g2]
          exact mfn_eq hn hs (RN.le hs (by decide) g1)
      · right
        refine ⟨?_, k2⟩
        rcases f3 with w | w
        · exact w
        · obtain ⟨w1, w2, w3⟩ := f4.mp w
          exact absurd ⟨w2, w1, hac.mp w3⟩ k1
    · have hcm : ch l e (p + 2 + K) = -1 := if_neg (by omega)
      have hyy : yy = 0 := by
        rcases f2 with ⟨x1, _⟩ | ⟨x1, x2, x3, x4⟩
        · rw [hcm] at x1
          unfold isE at x1
          omega
        · omega
      have hcm' : ch l e' (p + 2 + K') = -1 := if_neg (by omega)
      have hX : EXPO l e' 1 (p + 2 + K') 0 0 (p + 2 + K') := .inr ⟨fun g => by rw [hcm'] at g; unfold isE at g; omega, rfl, rfl, rfl⟩
      obtain ⟨b', s', a1, a2, a4⟩ := f215_eq (Z := Z) hs hM hp2 hS hX h40 hZ
      rw [a1, zb1_mk]
      refine ⟨_, s', rfl, a2.up rfl rfl, h6.fr a2 rfl rfl (by decide) (by decide), .inr ⟨?_, ?_⟩⟩
      · rcases f3 with w | w
        · exact w
        · have := (f4.mp w).1
          omega
      · rcases a4 with ⟨⟨_, k2, _⟩, _⟩ | ⟨_, k2⟩
        · exact absurd k2 (by decide)
        · exact k2
theorem f208_241_eq {s : zS} {l : List Int} {p e Z Y : Nat} {sm ngv h y c : Int} {v : Int64} (hs : sm = 0 ∨ sm = 1) (hn : ngv = 0 ∨ ngv = 1) (hM : MT s l p e) (hc : c = if p < e then ch l e (e - 1) else -1) (hp : p ≤ e) (h40 : s.1 24 40 = zi 1) (h6 : D6 32 s) (hh : (h = 0 ∧ ¬ HX l e p) ∨ (h = 1 ∧ HX l e p)) (hF : FIND Z Y l e p ngv sm h y v) (hZ : 400000 ≤ Z) (hY : 400000 ≤ Y) : ∃ w s', f208_241 (zi sm) (zl (sgb ngv sm)) (zi c) s = some (w, s') ∧ ANS s s' sm y v w := by
  have g5 := hM.2.2.2.2.1
  have g6 := hM.2.2.2.2.2
  have hr := ch_rng hM.2.1 e p
  have hr1 := ch_rng hM.2.1 e (p + 1)
  have hrc : -1 ≤ c ∧ c ≤ 127 := by
    rw [hc]
    split
    · exact ch_rng hM.2.1 e (e - 1)
    · omega
  -- the end
  have h291 : ∃ w s', f208_291 (zi sm) (zl (sgb ngv sm)) (zi c) (zi h) s = some (w, s') ∧ ANS s s' sm y v w := by
    unfold f208_291
    have yes : isS c → ∃ w s', f208_331 (zi sm) (zl (sgb ngv sm)) (zi h) (setI s 24 39 (s.1 24 39 - zi 1)) = some (w, s') ∧ ANS s s' sm y v w := by
      intro g
      have hpe : p < e := by
        rcases Nat.lt_or_ge p e with q | q
        · exact q
        · rw [hc, if_neg (by omega)] at g
          unfold isS at g
          omega
      rw [hc, if_pos hpe] at g
      have e1 : s.1 24 39 - zi 1 = zi ((e - 1 : Nat) : Int) := by
        rw [hM.2.2.2.1, zi_sub]
        exact congrArg zi (by omega)
      rw [e1]
      have hM' : MT (setI s 24 39 (zi ((e - 1 : Nat) : Int))) l p (e - 1) := ⟨hM.1, hM.2.1, hM.2.2.1, rfl, by omega, g6⟩
      obtain ⟨w, s', a1, a2, a3, a4⟩ := f208_331_eq (s := setI s 24 39 (zi ((e - 1 : Nat) : Int))) hs hn hM' (.inr ⟨hpe, by omega, g⟩) hp h40 h6 hh hF hZ hY
      exact ⟨w, s', a1, (fr.refl.sI (.inr ⟨rfl, rfl⟩)).trans a2, a3, a4⟩
    have no : ¬ isS c → ∃ w s', f208_331 (zi sm) (zl (sgb ngv sm)) (zi h) s = some (w, s') ∧ ANS s s' sm y v w := by
      intro g
      refine f208_331_eq hs hn hM (.inl ⟨rfl, fun q => g ?_⟩) hp h40 h6 hh hF hZ hY
      rw [hc, if_pos q.1]
      exact q.2
    by_cases c1 : c = 102
    · rw [if_pos (zeq c1)]
      exact yes (.inl c1)
    · rw [if_neg (zne (by omega))]
      by_cases c2 : c = 70
      · rw [if_pos (zeq c2)]
        exact yes (.inr (.inl c2))
      · rw [if_neg (zne (by omega))]
        by_cases c3 : c = 100
        · rw [if_pos (zeq c3)]
          exact yes (.inr (.inr (.inl c3)))
        · rw [if_neg (zne (by omega))]
          by_cases c4 : c = 68
          · rw [if_neg (not_not_intro (zeq c4))]
            exact yes (.inr (.inr (.inr c4)))
          · rw [if_pos (zne (by omega))]
            exact no (by unfold isS; omega)
  have e1 : s.1 24 38 + zi 1 = zi ((p + 1 : Nat) : Int) := by rw [hM.2.2.1]; exact zi_add _ _
  have h205 : f205 (s.1 24 38) s = some (zi (ch l e p), s) := by rw [hM.2.2.1]; exact f205_eq hM (by omega)
  unfold f208_241
  rw [h205, zb1_mk, e1, f205_eq hM (by omega), zb1_mk, e1, f205_eq hM (by omega), zb1_mk]
  rcases hh with ⟨rfl, nx⟩ | ⟨rfl, hx⟩
  · by_cases c1 : ch l e p = 48
    · have n1 : ch l e (p + 1) ≠ 120 := fun q => nx ⟨c1, .inl q⟩
      have n2 : ch l e (p + 1) ≠ 88 := fun q => nx ⟨c1, .inr q⟩
      rw [if_neg (not_not_intro (zeq c1)), if_neg (zne (by omega)), if_pos (zne (by omega))]
      exact h291
    · rw [if_pos (zne (by omega))]
      exact h291
  · rw [if_neg (not_not_intro (zeq hx.1))]
    rcases hx.2 with q | q
    · rw [if_pos (zeq q)]
      exact h291
    · rw [if_neg (zne (by omega)), if_neg (not_not_intro (zeq q))]
      exact h291
theorem f208_eq {s : zS} {l : List Int} {Z Y : Nat} {sm y : Int} {v : Int64} (hs : sm = 0 ∨ sm = 1) (hL : MN 4 25 s l) (ha : asc l) (hl : l.length ≤ 800) (h6 : D6 32 s) (hR : READ Z Y l sm y v) (hZ : 400000 ≤ Z) (hY : 400000 ≤ Y) : ∃ w s', f208 (zi sm) s = some (w, s') ∧ ANS s s' sm y v w := by
  have hPE := PE l
  obtain ⟨s1, a1, a2, a3⟩ := f208_trim hL ha hl (zi sm)
  obtain ⟨s2, b1, b2, b3⟩ := f208_91_eq hs a2 hPE.1
  have hsg := sg_le (l := l) (e := E0 l) (p := P0 l) hPE.1
  unfold READ at hR
  have hng := ng_bit l (E0 l) (P0 l)
  rw [a1, b1]
  generalize ng l (E0 l) (P0 l) = ngv at *
  generalize sg l (E0 l) (P0 l) = p at *
  generalize E0 l = e at *
  have hf12 : fr [] [38, 39, 40] s s2 := (a3.up rfl rfl).trans (b3.up rfl rfl)
  have hf3 : fr [] [38, 39, 40] s (setI s2 24 40 (zi 1)) := hf12.sI (.inr ⟨rfl, rfl⟩)
  have hM3 : MT (setI s2 24 40 (zi 1)) l p e := b2
  have h63 : D6 32 (setI s2 24 40 (zi 1)) := h6.fr hf3 rfl rfl (by decide) (by decide)
  have h403 : (setI s2 24 40 (zi 1)).1 24 40 = zi 1 := rfl
  have g5 := hM3.2.2.2.2.1
  obtain ⟨y1, c1, c2, c3⟩ := f207_eq hM3 hsg.2 (c := 63) (by omega)
  obtain ⟨y2, d1, d2, d3⟩ := f207_eq hM3 hsg.2 (c := 64) (by omega)
  rw [← lit_words.1] at c3
  rw [← lit_words.2] at d3
  unfold f208_172
  rw [c1, zb1_mk]
  unfold RDP at hR
  rcases c2 with rfl | rfl
  · have n1 : ¬ isW l (lit 53) e p := fun q => absurd (c3.mpr q) (by decide)
    rw [if_pos rfl, d1, zb1_mk]
    rcases d2 with rfl | rfl
    · have n2 : ¬ isW l (lit 54) e p := fun q => absurd (d3.mpr q) (by decide)
      rcases hR with h | h | ⟨_, _, h, hh, hF⟩
      · exact absurd h.1 n1
      · exact absurd h.2.1 n2
      · rw [if_pos rfl, hM3.2.2.2.1, hM3.2.2.1]
        have fin : ∀ c : Int, c = (if p < e then ch l e (e - 1) else -1) → ∃ w s', f208_241 (zi sm) (zl (sgb ngv sm)) (zi c) (setI s2 24 40 (zi 1)) = some (w, s') ∧ ANS s s' sm y v w := by
          intro c hc
          obtain ⟨w, s', x1, x2, x3, x4⟩ := f208_241_eq hs hng hM3 hc hsg.2 h403 h63 hh hF hZ hY
          exact ⟨w, s', x1, (hf3.up rfl rfl).trans x2, x3, x4⟩
        by_cases g : e ≤ p
        · rw [if_pos (zle (by omega))]
          exact fin (-1) (by rw [if_neg (by omega)])
        · have e1 : zi (e : Int) - zi 1 = zi ((e - 1 : Nat) : Int) := by
            rw [zi_sub]
            exact congrArg zi (by omega)
          rw [if_neg (znle (by omega)), e1, f205_eq hM3 (by omega), zb1_mk]
          exact fin _ (by rw [if_pos (by omega)])
    · have w2 := d3.mp rfl
      rcases hR with h | ⟨_, _, h1, h2⟩ | h
      · exact absurd h.1 n1
      · rw [if_neg (zne (by omega))]
        refine ⟨_, _, rfl, hf3.up rfl rfl, h63, .inl ⟨h1, rfl, ?_⟩⟩
        rw [h2]
        exact mfn_eq hng hs (Nat.le_refl _)
      · exact absurd w2 h.2.1
  · have w1 := c3.mp rfl
    rcases hR with ⟨_, h1, h2⟩ | h | h
    · rw [if_neg (zne (by omega))]
      rcases hs with rfl | rfl
      · rw [if_pos rfl]
        exact ⟨_, _, rfl, hf3.up rfl rfl, h63, .inl ⟨h1, rfl, by rw [h2]; rfl⟩⟩
      · rw [if_neg (zne (by omega))]
        exact ⟨_, _, rfl, hf3.up rfl rfl, h63, .inl ⟨h1, rfl, by rw [h2]; rfl⟩⟩
    · exact absurd w1 h.1
    · exact absurd w1 h.1
theorem op_read (s : zS) (x : Int32) (hx : x = zi 0 ∨ x = zi 1) (h : Inv Sound s) (he : s.2.2 < 600000) : opOKL Sound s (f255 x) (f228 x) := by
  obtain ⟨sm, hs, rfl⟩ : ∃ sm : Int, (sm = 0 ∨ sm = 1) ∧ x = zi sm := by
    rcases hx with hx | hx
    · exact ⟨0, .inl rfl, hx⟩
    · exact ⟨1, .inr rfl, hx⟩
  obtain ⟨⟨l, h1⟩, ⟨g, h2⟩, ⟨o, h3⟩, h4, ⟨na, h5⟩, h6⟩ := h
  have hl : l.length ≤ 800 := h1.1.2.2
  obtain ⟨Z, hZ⟩ : ∃ Z : Nat, 400000 ≤ Z := ⟨400000, Nat.le_refl _⟩
  obtain ⟨y, s1, a1, a2, a3⟩ := f135_eq (Z := Z) (Y := Z) h1.1 h1.2.2 hs hZ hZ
  have hf1 : fr [1, 21, 22, 23, 41] [] s (setI s1 1 1 (zi 0)) := (a3.up rfl rfl).sI (.inl rfl)
  -- the reference, from any state the class leaves
  have mod : ∀ (s0' sx : zS), fr [1, 21, 22, 23, 41] [] s0' sx → s0'.1 = s.1 → s0'.2.1 = s.2.1 → sx.1 1 1 = zi 0 → ∃ b s2, f228 (zi sm) sx = some (b, s2) ∧ r162 s2 = zi (1 - y) ∧ (y = 1 → b = s1.2.1 21 10) ∧ s2.2.1 41 = sx.2.1 41 ∧ (y = 0 ∨ y = 1) ∧ Inv Sound s2 ∧ s2.2.2 = s0'.2.2 := by
    intro s0' sx hfx e01 e02 hx1
    have k25 : sx.1 25 = s.1 25 := (hfx.f rfl (by decide)).trans (by rw [e01])
    have k24 : ∀ k, sx.1 24 k = s.1 24 k := fun k => (hfx.1 24 k rfl (fun _ => rfl)).trans (by rw [e01])
    have hMN : MN 4 25 sx l := h1.2.1.of (k24 4) k25
    have hD6 : D6 32 s0' := by unfold D6; rw [e01]; exact h6.1
    obtain ⟨w, s2, b1, b2, b3, b4⟩ := f208_eq hs hMN h1.2.2 hl (hD6.fr hfx rfl rfl (by decide) (by decide)) a2 hZ hZ
    have fall : ∀ v : Int32, fr [1, 21, 22, 23, 41, 32, 33] [4, 9, 38, 39, 40] s0' (setI (setI s2 24 4 (zi 0)) 24 9 v) := fun v => (((hfx.up rfl rfl).trans (b2.up rfl rfl)).sI (.inr ⟨rfl, rfl⟩)).sI (.inr ⟨rfl, rfl⟩)
    have inv : ∀ v : Int32, Inv Sound (setI (setI s2 24 4 (zi 0)) 24 9 v) := by
      intro v
      have F := fall v
      have f1 : ∀ a k, [1, 21, 22, 23, 41, 32, 33].contains a = false → (a = 24 → [4, 9, 38, 39, 40].contains k = false) → (setI (setI s2 24 4 (zi 0)) 24 9 v).1 a k = s.1 a k := fun a k c1 c2 => (F.1 a k c1 c2).trans (by rw [e01])
      have f2 : ∀ a, [1, 21, 22, 23, 41, 32, 33].contains a = false → a ≠ 24 → (setI (setI s2 24 4 (zi 0)) 24 9 v).1 a = s.1 a := fun a c1 c2 => funext (fun k => f1 a k c1 (fun q => absurd q c2))
      have h5' : R5 s0' na := by
        obtain ⟨q1, q2, q3, q4⟩ := h5
        refine ⟨by rw [e01]; exact q1, by rw [e01]; exact q2, q3, fun i hi => ?_⟩
        obtain ⟨k, t, q⟩ := q4 i hi
        refine ⟨k, t, ?_⟩
        unfold AR
        rw [e01, e02]
        exact q
      have d34 : D6 34 s0' := by unfold D6; rw [e01]; exact h6.2.1
      have d36 : D6 36 s0' := by unfold D6; rw [e01]; exact h6.2.2
      have s11 : (setI (setI s2 24 4 (zi 0)) 24 9 v).1 1 1 = zi 0 := (congrFun (b2.f (a := 1) rfl (by decide)) 1).trans hx1
      refine ⟨⟨[], ⟨s11, isL_nil, Nat.zero_le _⟩, ⟨rfl, isL_nil⟩, fun v hv => by cases hv⟩, ⟨g, h2.1.of (f1 3 1 rfl (fun q => absurd q (by decide))) (f2 4 rfl (by decide)), h2.2.1.of (f1 24 34 rfl (fun _ => rfl)) (f2 26 rfl (by decide)), h2.2.2.1, ?_⟩, ⟨o, h3.1.of (f1 5 1 rfl (fun q => absurd q (by decide))) (f2 6 rfl (by decide)), h3.2.1.of (f1 24 6 rfl (fun _ => rfl)) (f2 27 rfl (by decide)), h3.2.2⟩, ⟨?_, ?_⟩, ⟨na, h5'.fr F rfl rfl rfl rfl rfl rfl rfl rfl rfl rfl⟩, ⟨b3, d34.fr F rfl rfl (by decide) (by decide), d36.fr F rfl rfl (by decide) (by decide)⟩⟩
      · rw [f1 0 7 rfl (fun q => absurd q (by decide)), f1 24 5 rfl (fun _ => rfl)]
        exact h2.2.2.2
      · rw [f1 0 8 rfl (fun q => absurd q (by decide)), f1 24 7 rfl (fun _ => rfl)]
        exact h4.1
      · rw [f1 0 9 rfl (fun q => absurd q (by decide)), f1 24 8 rfl (fun _ => rfl)]
        exact h4.2
    have cnt : ∀ v : Int32, (setI (setI s2 24 4 (zi 0)) 24 9 v).2.2 = s0'.2.2 := fun v => (fall v).2.2
    have l41 : ∀ v : Int32, (setI (setI s2 24 4 (zi 0)) 24 9 v).2.1 41 = sx.2.1 41 := fun v => b2.l (a := 41) rfl
    unfold f228
    rw [b1, zb1_mk]
    rcases b4 with ⟨y1, q1, q2⟩ | ⟨y0, q1⟩
    · rw [q1, if_neg (zne (by omega))]
      have q1' : (setI s2 24 4 (zi 0)).1 24 40 = zi 1 := q1
      refine ⟨mfn sm w, setI (setI s2 24 4 (zi 0)) 24 9 (zi 0), ?_, by rw [y1]; rfl, fun _ => q2, l41 _, .inr y1, inv _, cnt _⟩
      unfold f228_24 mfn
      rw [q1', if_neg (zne (by omega))]
      rcases hs with rfl | rfl
      · rw [if_pos rfl, if_pos rfl]
      · rw [if_neg (zne (by omega)), if_neg (show ¬ (1 : Int) = 0 by decide)]
    · rw [q1, if_pos rfl]
      have q1' : (setI s2 24 4 (zi 0)).1 24 40 = zi 0 := q1
      refine ⟨zl 0, setI (setI s2 24 4 (zi 0)) 24 9 (zi 1), ?_, by rw [y0]; rfl, fun q => by omega, l41 _, .inl y0, inv _, cnt _⟩
      unfold f228_24
      rw [q1', if_pos rfl]
  have e21 : f21 1 s1 = some (setI s1 1 1 (zi 0)) := rfl
  have ecnt : (setI s1 1 1 (zi 0)).2.2 = s.2.2 := hf1.2.2
  have hy01 : y = 0 ∨ y = 1 := by
    obtain ⟨_, _, _, _, _, _, q, _, _⟩ := mod s (setI s1 1 1 (zi 0)) hf1 rfl rfl rfl
    exact q
  rcases hy01 with rfl | rfl
  · have hft : fr [1, 21, 22, 23, 41] [] (thr s) (thr (setI s1 1 1 (zi 0))) := ⟨hf1.1, hf1.2.1, by show (setI s1 1 1 (zi 0)).2.2 + 1 = s.2.2 + 1; rw [ecnt]⟩
    obtain ⟨b, s2, m1, m2, m3, m4, m5, m6, m7⟩ := mod (thr s) (thr (setI s1 1 1 (zi 0))) hft rfl rfl rfl
    refine ⟨zi 1, thr (setI s1 1 1 (zi 0)), b, s2, ?_, m1, m2, fun q => absurd q (zne (by omega)), m6, ?_⟩
    · unfold f255 f12
      rw [a1, zb1_mk, e21, zb0_mk, if_neg (not_not_intro rfl), if_pos (by rw [ecnt]; exact he), zbT_r]
      rfl
    · rw [m7]
      exact Nat.le_refl _
  · have hfk : fr [1, 21, 22, 23, 41] [] s (setK (setI s1 1 1 (zi 0)) 41 0 (s1.2.1 21 10)) := hf1.sK rfl
    obtain ⟨b, s2, m1, m2, m3, m4, m5, m6, m7⟩ := mod s (setK (setI s1 1 1 (zi 0)) 41 0 (s1.2.1 21 10)) hfk rfl rfl rfl
    refine ⟨zi 0, setK (setI s1 1 1 (zi 0)) 41 0 (s1.2.1 21 10), b, s2, ?_, m1, m2, fun _ => ?_, m6, ?_⟩
    · unfold f255 f12
      have e34 : r134 (setI s1 1 1 (zi 0)) = s1.2.1 21 10 := rfl
      rw [a1, zb1_mk, e21, zb0_mk, if_pos (zne (by omega)), e34, zbT_l, if_pos ix01, z00]
    · rw [m4, m3 rfl]
      rfl
    · rw [m7]
      omega
/-- the owed statement -/
theorem i_vc : Claimed_1_1 ∧ Claimed_1_2 := vc_of_goal (goal_of_conv convOK op_read)
