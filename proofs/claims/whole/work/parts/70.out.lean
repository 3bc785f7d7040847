/-! what is to be written of N, and that the class writes it -/
/-- t is the place of R's first digit -/
def TopR (R : Nat) (q t : Int) : Prop := q ≤ t ∧ 10 ^ (t - q).toNat ≤ R ∧ R < 10 ^ (t - q + 1).toNat
theorem TopR.uniq {R : Nat} {q t t' : Int} (h : TopR R q t) (g : TopR R q t') : t = t' := by
  have aux : ∀ {t t' : Int}, TopR R q t → TopR R q t' → ¬ t < t' := by
    intro t t' h g c
    have h1 := h.2.2
    have h2 := g.2.1
    have h3 := h.1
    have : 10 ^ (t - q + 1).toNat ≤ 10 ^ (t' - q).toNat := Nat.pow_le_pow_right (by decide) (by omega)
    omega
  have := aux h g
  have := aux g h
  omega
theorem TopR.ne {R : Nat} {q t : Int} (h : TopR R q t) : R ≠ 0 := by
  have := h.2.1
  have := p_pos (t - q).toNat
  omega
/-- the place of N's first digit, 0 for 0 -/
def top0 (N : Nat) (t : Int) : Prop := (N = 0 ∧ t = 0) ∨ (N ≠ 0 ∧ topN N t)
theorem top0.uniq {N : Nat} {t t' : Int} (h : top0 N t) (g : top0 N t') : t = t' := by
  rcases h with ⟨h1, h2⟩ | ⟨h1, h2⟩ <;> rcases g with ⟨g1, g2⟩ | ⟨g1, g2⟩
  · omega
  · exact absurd h1 g1
  · exact absurd g1 h1
  · exact topN_uniq h2 g2
/-- fixed: with so many digits behind the point -/
def OUTf (F : Int32) (N : Nat) (pr : Nat) (D T : List Int) : Prop := ∃ t, ((rnd N (-(pr : Int)) = 0 ∧ t ≤ 0) ∨ TopR (rnd N (-(pr : Int))) (-(pr : Int)) t) ∧ D = whl (rnd N (-(pr : Int))) (-(pr : Int)) t ∧ T = frac (rnd N (-(pr : Int))) (-(pr : Int)) F (-1) pr
theorem OUTf.uniq {F : Int32} {N pr : Nat} {D T D' T' : List Int} (h : OUTf F N pr D T) (g : OUTf F N pr D' T') : D = D' ∧ T = T' := by
  obtain ⟨t, h1, rfl, rfl⟩ := h
  obtain ⟨t', g1, rfl, rfl⟩ := g
  refine ⟨?_, rfl⟩
  have : max t 0 = max t' 0 := by
    rcases h1 with ⟨h1, h2⟩ | h1 <;> rcases g1 with ⟨g1, g2⟩ | g1
    · omega
    · exact absurd h1 g1.ne
    · exact absurd g1 h1.ne
    · rw [h1.uniq g1]
  unfold whl
  rw [this]
/-- rounded to so many digits behind the first -/
def RND (N : Nat) (pr : Nat) (R : Nat) (q t : Int) : Prop := ∃ t0, top0 N t0 ∧ q = t0 - pr ∧ R = rnd N q ∧ ((N = 0 ∧ t = 0) ∨ (N ≠ 0 ∧ TopR R q t))
theorem RND.uniq {N pr : Nat} {R R' : Nat} {q q' t t' : Int} (h : RND N pr R q t) (g : RND N pr R' q' t') : R = R' ∧ q = q' ∧ t = t' := by
  obtain ⟨t0, h1, rfl, rfl, h2⟩ := h
  obtain ⟨t0', g1, rfl, rfl, g2⟩ := g
  obtain rfl := h1.uniq g1
  refine ⟨rfl, rfl, ?_⟩
  rcases h2 with ⟨h3, h4⟩ | ⟨h3, h4⟩ <;> rcases g2 with ⟨g3, g4⟩ | ⟨g3, g4⟩
  · omega
  · exact absurd h3 g3
  · exact absurd g3 h3
  · exact h4.uniq g4
def sciD (R : Nat) (q t : Int) : List Int := [(48 + (rdg R q t : Nat) : Int)]
def sciT (R : Nat) (q : Int) (F : Int32) (t : Int) (pr : Nat) : List Int := frac R q F (t - 1) pr ++ expo t
def OUTe (F : Int32) (N : Nat) (pr : Nat) (D T : List Int) : Prop := ∃ R q t, RND N pr R q t ∧ D = sciD R q t ∧ T = sciT R q F t pr
theorem OUTe.uniq {F : Int32} {N pr : Nat} {D T D' T' : List Int} (h : OUTe F N pr D T) (g : OUTe F N pr D' T') : D = D' ∧ T = T' := by
  obtain ⟨R, q, t, h1, rfl, rfl⟩ := h
  obtain ⟨R', q', t', g1, rfl, rfl⟩ := g
  obtain ⟨rfl, rfl, rfl⟩ := h1.uniq g1
  exact ⟨rfl, rfl⟩
def OUTg (F : Int32) (N : Nat) (p : Nat) (D T : List Int) : Prop := ∃ R q t, RND N (p - 1) R q t ∧ ((t < -4 ∨ (p : Int) ≤ t) → D = sciD R q t ∧ T = sciT R q F t (p - 1)) ∧ (¬ (t < -4 ∨ (p : Int) ≤ t) → D = whl R q t ∧ T = frac R q F (-1) ((p : Int) - 1 - t).toNat)
theorem OUTg.uniq {F : Int32} {N p : Nat} {D T D' T' : List Int} (h : OUTg F N p D T) (g : OUTg F N p D' T') : D = D' ∧ T = T' := by
  obtain ⟨R, q, t, h1, h2, h3⟩ := h
  obtain ⟨R', q', t', g1, g2, g3⟩ := g
  obtain ⟨rfl, rfl, rfl⟩ := h1.uniq g1
  by_cases c : t < -4 ∨ (p : Int) ≤ t
  · obtain ⟨rfl, rfl⟩ := h2 c
    obtain ⟨rfl, rfl⟩ := g2 c
    exact ⟨rfl, rfl⟩
  · obtain ⟨rfl, rfl⟩ := h3 c
    obtain ⟨rfl, rfl⟩ := g3 c
    exact ⟨rfl, rfl⟩
/-- by the conversion's letter -/
def OUT (F : Int32) (cv : Int) (N pr : Nat) (D T : List Int) : Prop := (cv = 101 → OUTe F N pr D T) ∧ (cv = 102 → OUTf F N pr D T) ∧ (cv = 103 → OUTg F N (max pr 1) D T)
/-- the sizes that a real can have -/
def VB (N : Nat) : Prop := N < 10 ^ 4089 ∧ (N = 0 ∨ 10 ^ 3450 ≤ N)
theorem VB.top {N : Nat} (h : VB N) {t : Int} (ht : top0 N t) : -330 ≤ t ∧ t ≤ 308 := by
  rcases ht with ⟨h1, h2⟩ | ⟨h1, h2⟩
  · omega
  · have h3 := h2.1
    have h5 := h.1
    have h6 := h.2.resolve_left h1
    constructor
    · rcases Int.lt_or_le t (-330) with g | g
      · have : 10 ^ (3781 + t).toNat ≤ 10 ^ 3450 := Nat.pow_le_pow_right (by decide) (by omega)
        exact absurd (Nat.lt_of_lt_of_le h2.2.2 (Nat.le_trans this h6)) (Nat.lt_irrefl _)
      · exact g
    · rcases Int.lt_or_le 308 t with g | g
      · have : 10 ^ 4089 ≤ 10 ^ (3780 + t).toNat := Nat.pow_le_pow_right (by decide) (by omega)
        exact absurd (Nat.lt_of_lt_of_le h5 (Nat.le_trans this h2.2.1)) (Nat.lt_irrefl _)
      · exact g
theorem CD.top {s : zS} {N : Nat} {P : Int} {cnt : Nat} (h : CD s N P cnt) : top0 N (P - 1) := by
  rcases h.2.2.2.2.2.1 with ⟨h1, _, h2⟩ | ⟨h1, _⟩
  · exact .inl ⟨h1, by omega⟩
  · refine .inr ⟨?_, h1⟩
    have := h1.2.1
    have := p_pos (3780 + (P - 1)).toNat
    omega
theorem CR.topR {s : zS} {R : Nat} {q P : Int} {cnt : Nat} (h : CR s R q P cnt) : (R = 0 ∧ P - 1 = 0) ∨ TopR R q (P - 1) := by
  rcases h.2.2.2.2.2.2.1 with ⟨h1, h2⟩ | ⟨h1, h2, h3, h4⟩
  · exact .inl ⟨h1, by omega⟩
  · have e : (P - 1 - q + 1).toNat = (P - q).toNat := by omega
    exact .inr ⟨by omega, h3, by rw [e]; exact h4⟩
theorem rnd_zero (q : Int) : rnd 0 q = 0 := by
  unfold rnd
  rw [dgN_zero, if_pos (by decide), Nat.zero_div]
theorem top_rnd {N : Nat} {t q : Int} (h : topN N t) (hq : -3780 ≤ q) (hqt : q ≤ t) : rnd N q ≠ 0 := by
  have h1 := (top_cut h hq hqt).1
  have h2 := p_pos (t - q).toNat
  unfold rnd
  omega
theorem rnd_lt {N : Nat} {t q : Int} (h : topN N t) (hq : -3780 ≤ q) (hqt : q ≤ t) : rnd N q ≤ 10 ^ (t + 1 - q).toNat := by
  have h1 := (top_cut h hq hqt).2
  unfold rnd
  split <;> omega
theorem TopR_le {N : Nat} {t0 q t : Int} (h : topN N t0) (hq : -3780 ≤ q) (hqt : q ≤ t0) (g : TopR (rnd N q) q t) : t ≤ t0 + 1 := by
  have h1 := rnd_lt h hq hqt
  have h2 := g.2.1
  rcases Int.lt_or_le (t0 + 1) t with c | c
  · have : 10 ^ (t0 + 1 - q).toNat < 10 ^ (t - q).toNat := Nat.pow_lt_pow_right (by decide) (by omega)
    omega
  · exact c
theorem TopR_ge {N : Nat} {t0 q t : Int} (h : topN N t0) (hq : -3780 ≤ q) (hqt : q ≤ t0) (g : TopR (rnd N q) q t) : t0 ≤ t := by
  have h1 := (top_cut h hq hqt).1
  have h2 := g.2.2
  rcases Int.lt_or_le t t0 with c | c
  · have h3 : 10 ^ (t - q + 1).toNat ≤ 10 ^ (t0 - q).toNat := Nat.pow_le_pow_right (by decide) (by have := g.1; omega)
    unfold rnd at h2
    omega
  · exact c
/-- rounding to digits, with the class -/
theorem f119_RND {s : zS} {N : Nat} {P : Int} {cnt : Nat} (h : CD s N P cnt) (hV : VB N) {pr : Nat} (hpr : pr ≤ 1200) : ∃ s' P' cnt' R q, f119 (zi ((pr : Int) + 1)) s = some s' ∧ CR s' R q P' cnt' ∧ RND N pr R q (P' - 1) ∧ -331 ≤ P' - 1 ∧ P' - 1 ≤ 309 ∧ fr [16, 18] [] s s' := by
  have ht := h.top
  have hb := hV.top ht
  obtain ⟨s', P', cnt', a1, a2, a3⟩ := f119_eq h (n := (pr : Int) + 1) (by omega) (by omega) (by omega) (fun _ => by omega)
  have e0 : P - ((pr : Int) + 1) = P - 1 - pr := by omega
  rw [e0] at a2
  have hR : (N = 0 ∧ P' - 1 = 0) ∨ (N ≠ 0 ∧ TopR (rnd N (P - 1 - pr)) (P - 1 - pr) (P' - 1)) := by
    rcases ht with ⟨h1, h2⟩ | ⟨h1, h2⟩
    · refine .inl ⟨h1, ?_⟩
      rcases a2.topR with g | g
      · exact g.2
      · exact absurd (by rw [h1]; exact rnd_zero _) g.ne
    · refine .inr ⟨h1, ?_⟩
      rcases a2.topR with g | g
      · exact absurd g.1 (top_rnd h2 (by omega) (by omega))
      · exact g
  refine ⟨s', P', cnt', _, _, a1, a2, ⟨P - 1, ht, rfl, rfl, hR⟩, ?_, ?_, a3⟩
  · rcases hR with g | ⟨g1, g2⟩
    · omega
    · rcases ht with ⟨h1, h2⟩ | ⟨h1, h2⟩
      · exact absurd h1 g1
      · have := TopR_ge h2 (by omega) (by omega) g2
        omega
  · rcases hR with g | ⟨g1, g2⟩
    · omega
    · rcases ht with ⟨h1, h2⟩ | ⟨h1, h2⟩
      · exact absurd h1 g1
      · have := TopR_le h2 (by omega) (by omega) g2
        omega
theorem rdg_top {R : Nat} {q t : Int} : (48 + (rdg R q t : Nat) : Int) = 48 + (rdg R q t : Nat) := rfl
/-- the class writes it -/
theorem f104_eq {s : zS} {N : Nat} {P : Int} {cnt : Nat} (h : CD s N P cnt) (hV : VB N) {F : Int32} {cv pr : Int} (hF : s.1 7 2 = F) (h5 : s.1 7 5 = zi pr) (h6 : s.1 7 6 = zi cv) (hp1 : -1 ≤ pr) (hp2 : pr ≤ 1100) (hcv : cv = 101 ∨ cv = 102 ∨ cv = 103) {l : List Int} {g z : Int} (hP : PC s l g z) (hl : l.length ≤ 20) :
    ∃ s' D T, f104 s = some s' ∧ PC s' (l ++ (cmF F D ++ T)) g z ∧ OUT F cv N (if pr < 0 then 6 else pr.toNat) D T ∧ fr [13, 14, 16, 18] [] s s' := by
  have ht := h.top
  have hb := hV.top ht
  -- precision
  obtain ⟨y, hy, hy2⟩ : ∃ y : Nat, y = (if pr < 0 then 6 else pr.toNat) ∧ y ≤ 1100 := ⟨_, rfl, by split <;> omega⟩
  rw [← hy]
  have e0 : f104 s = f104_16 (zi y) s := by
    unfold f104
    have e1 : r53 s = zi pr := h5
    rw [e1]
    by_cases c : pr < 0
    · rw [if_neg (znge (by omega))]
      rw [if_pos c] at hy
      rw [hy]
      rfl
    · rw [if_pos (zge (by omega))]
      rw [if_neg c] at hy
      have e2 : pr = (y : Int) := by omega
      rw [e2]
  rw [e0]
  unfold f104_16
  have e6 : r54 s = zi cv := h6
  have e4 : r117 s = zi P := h.1
  rw [e6]
  have one : ∀ (x : Int), cmF F [x] = [x] := by
    intro x
    unfold cmF
    split <;> rfl
  rcases hcv with rfl | rfl | rfl
  · -- e
    rw [if_neg (not_not_intro rfl), zi_add]
    obtain ⟨s1, P', cnt', R, q, a1, a2, a3, a4, a5, a6⟩ := f119_RND h hV (pr := y) (by omega)
    obtain ⟨s2, b1, b2, b3⟩ := f106_eq (pr := y) (by omega) (F := F) (by rw [a6.f rfl (by decide)]; exact hF) a2 (hP.mv a6 rfl rfl) (by omega) (by omega) (by omega)
    refine ⟨s2, sciD R q (P' - 1), sciT R q F (P' - 1) y, ?_, ?_, ⟨fun _ => ⟨R, q, P' - 1, a3, rfl, rfl⟩, fun e => by omega, fun e => by omega⟩, (a6.up rfl rfl).trans (b3.up rfl rfl)⟩
    · rw [a1, zb0_mk, b1]
      rfl
    · unfold sciD sciT
      rw [one]
      have e9 : P' - 1 - 1 = P' - 2 := by omega
      rw [e9]
      exact b2
  · -- f
    rw [if_pos (show ¬ zi 102 = zi 101 from zne (by omega)), if_neg (not_not_intro rfl), e4, zi_add]
    obtain ⟨s1, P', cnt', a1, a2, a3⟩ := f119_eq h (n := P + y) (by omega) (by omega) (by omega) (fun e => by
      rcases ht with ⟨_, g⟩ | ⟨g, _⟩
      · omega
      · exact absurd e g)
    have eq : P - (P + (y : Int)) = -(y : Int) := by omega
    rw [eq] at a2
    have hR := a2.topR
    have hPu : P' ≤ 320 := by
      rcases hR with g | g
      · omega
      · rcases ht with ⟨h1, h2⟩ | ⟨h1, h2⟩
        · rw [h1, rnd_zero] at g
          exact absurd rfl g.ne
        · by_cases c : -(y : Int) ≤ P - 1
          · have := TopR_le h2 (by omega) c g
            omega
          · have hq0 : N / 10 ^ (3780 + -(y : Int)).toNat = 0 := Nat.div_eq_of_lt (Nat.lt_of_lt_of_le h2.2.2 (Nat.pow_le_pow_right (by decide) (by omega)))
            have hle : rnd N (-(y : Int)) ≤ 1 := by
              unfold rnd
              rw [hq0]
              split <;> omega
            have := g.2.1
            rcases Int.lt_or_le (-(y : Int)) (P' - 1) with c2 | c2
            · have : 10 ^ 1 ≤ 10 ^ (P' - 1 - -(y : Int)).toNat := Nat.pow_le_pow_right (by decide) (by omega)
              omega
            · omega
    obtain ⟨s2, b1, b2, b3⟩ := f105_eq (pr := y) (by omega) (F := F) (by rw [a3.f rfl (by decide)]; exact hF) a2 (hP.mv a3 rfl rfl) hPu (by omega)
    refine ⟨s2, _, _, ?_, b2, ⟨fun e => by omega, fun _ => ⟨P' - 1, ?_, rfl, rfl⟩, fun e => by omega⟩, (a3.up rfl rfl).trans (b3.up rfl rfl)⟩
    · rw [a1, zb0_mk, b1]
      rfl
    · rcases hR with g | g
      · exact .inl ⟨g.1, by omega⟩
      · exact .inr g
  · -- g
    obtain ⟨p, hp⟩ : ∃ p : Nat, max y 1 = p + 1 := ⟨max y 1 - 1, by omega⟩
    have em : r264 (zi y) (zi 1) s = zi ((p : Int) + 1) := by
      rw [r264_max (by omega) (by omega) (by omega) (by omega)]
      congr 1
      omega
    rw [if_pos (show ¬ zi 103 = zi 101 from zne (by omega)), if_pos (show ¬ zi 103 = zi 102 from zne (by omega)), em]
    obtain ⟨s1, P', cnt', R, q, a1, a2, a3, a4, a5, a6⟩ := f119_RND h hV (pr := p) (by omega)
    have hF1 : s1.1 7 2 = F := by rw [a6.f rfl (by decide)]; exact hF
    have hP1 := hP.mv a6 rfl rfl
    have e5 : r117 s1 - zi 1 = zi (P' - 1) := by
      have : r117 s1 = zi P' := a2.1
      rw [this, zi_sub]
    rw [a1, zb0_mk, e5]
    have ep1 : p + 1 - 1 = p := by omega
    have sci : (P' - 1 < -4 ∨ ((p + 1 : Nat) : Int) ≤ P' - 1) → ∃ s' D T, f104_134 (zi ((p : Int) + 1)) s1 = some s' ∧ PC s' (l ++ (cmF F D ++ T)) g z ∧ OUT F 103 N y D T ∧ fr [13, 14, 16, 18] [] s s' := by
      intro c
      obtain ⟨s2, b1, b2, b3⟩ := f106_eq (pr := p) (by omega) (F := F) hF1 a2 hP1 (by omega) (by omega) (by omega)
      refine ⟨s2, sciD R q (P' - 1), sciT R q F (P' - 1) p, ?_, ?_, ⟨fun e => by omega, fun e => by omega, fun _ => ⟨R, q, P' - 1, by rw [hp, ep1]; exact a3, fun _ => ⟨rfl, by rw [hp, ep1]⟩, fun c2 => absurd (by rw [hp]; exact c) c2⟩⟩, (a6.up rfl rfl).trans (b3.up rfl rfl)⟩
      · unfold f104_134
        have e9 : zi ((p : Int) + 1) - zi 1 = zi (p : Int) := by
          rw [zi_sub]
          congr 1
          omega
        rw [e9, b1]
        rfl
      · unfold sciD sciT
        rw [one]
        have e9 : P' - 1 - 1 = P' - 2 := by omega
        rw [e9]
        exact b2
    by_cases c1 : P' - 1 < -4
    · rw [if_pos (zlt (by omega))]
      exact sci (.inl c1)
    · rw [if_neg (znlt (by omega))]
      by_cases c2 : ((p + 1 : Nat) : Int) ≤ P' - 1
      · rw [if_pos (zge (by omega))]
        exact sci (.inr c2)
      · rw [if_neg (znge (by omega))]
        obtain ⟨w, hw⟩ : ∃ w : Nat, (p : Int) + 1 - 1 - (P' - 1) = w := ⟨((p : Int) + 1 - 1 - (P' - 1)).toNat, by omega⟩
        obtain ⟨s2, b1, b2, b3⟩ := f105_eq (pr := w) (by omega) (F := F) hF1 a2 hP1 (by omega) (by omega)
        have ew : (((p + 1 : Nat) : Int) - 1 - (P' - 1)).toNat = w := by omega
        refine ⟨s2, _, _, ?_, b2, ⟨fun e => by omega, fun e => by omega, fun _ => ⟨R, q, P' - 1, by rw [hp, ep1]; exact a3, fun c3 => absurd (by rw [hp] at c3; exact c3) (by omega), fun _ => ⟨rfl, by rw [hp, ew]⟩⟩⟩, (a6.up rfl rfl).trans (b3.up rfl rfl)⟩
        rw [zi_sub, zi_sub, hw, b1]
        rfl
