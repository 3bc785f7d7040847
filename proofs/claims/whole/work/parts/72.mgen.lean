/-! general (g) with the reference; what is written, as a list -/
theorem rdg_pow (k : Nat) (q x : Int) : rdg (10 ^ k) q x = if x = q + k then 1 else 0 := by
  unfold rdg
  by_cases c1 : x < q
  · rw [if_pos c1, if_neg (by omega)]
  · rw [if_neg c1]
    obtain ⟨e, he⟩ : ∃ e : Nat, x - q = e := ⟨(x - q).toNat, by omega⟩
    have e1 : (x - q).toNat = e := by omega
    rw [e1]
    by_cases c2 : e = k
    · rw [c2, Nat.div_self (p_pos _), if_pos (by omega)]
    · rw [if_neg (by omega)]
      rcases Nat.lt_or_ge e k with c3 | c3
      · have e2 : 10 ^ k = 10 ^ e * (10 ^ (k - e - 1) * 10) := by
          rw [← Nat.pow_succ, ← Nat.pow_add]
          congr 1
          omega
        rw [e2, Nat.mul_div_cancel_left _ (p_pos _), Nat.mul_mod_left]
      · rw [Nat.div_eq_of_lt (Nat.pow_lt_pow_right (by decide) (by omega))]
theorem dl_congr {R R' : Nat} {q q' : Int} (h : ∀ x, rdg R q x = rdg R' q' x) : ∀ (k : Nat) (hi : Int), dl R q hi k = dl R' q' hi k
  | 0, _ => rfl
  | k + 1, hi => by
    show _ :: dl R q (hi - 1) k = _ :: dl R' q' (hi - 1) k
    rw [h, dl_congr h k]
theorem carry_rnd {N : Nat} {t q : Int} (ht : topN N t) (hq : -3700 ≤ q) (hqt : q ≤ t) (hT : TopR (rnd N q) q (t + 1)) : rnd N q = 10 ^ (t + 1 - q).toNat ∧ rnd N (q + 1) = 10 ^ (t - q).toNat := by
  obtain ⟨c1, c2⟩ := top_cut ht (by omega) hqt
  have h1 := hT.2.1
  have h2 := rnd_lt ht (by omega) hqt
  have e0 : (t + 1 - q).toNat = (t - q).toNat + 1 := by omega
  have hR : rnd N q = 10 ^ (t + 1 - q).toNat := by omega
  refine ⟨hR, ?_⟩
  have hy : N / 10 ^ (3780 + q).toNat = 10 * 10 ^ (t - q).toNat - 1 := by
    unfold rnd at hR
    rw [e0, Nat.pow_succ] at hR c2
    split at hR <;> omega
  have hp := p_pos (t - q).toNat
  have e1 : (3780 + (q + 1)).toNat = (3780 + q).toNat + 1 := by omega
  have e2 : N / 10 ^ (3780 + (q + 1)).toNat = 10 ^ (t - q).toNat - 1 := by
    rw [e1, Nat.pow_succ, ← Nat.div_div_eq_div_mul, hy]
    omega
  have e3 : dgN N (q + 1 - 1) = 9 := by
    unfold dgN
    have e4 : q + 1 - 1 = q := by omega
    rw [e4, if_neg (by omega), hy]
    omega
  unfold rnd
  rw [e2, e3, if_neg (by decide)]
  omega
theorem f187_eq {s : zS} {N a b : Nat} {F : Int32} {l : List Int} (h : MS s N a b F l) (hV : VB N) {p : Nat} (hp1 : 1 ≤ p) (hp : p ≤ 1200) (hl : l.length ≤ 100) : ∃ s' D T, f187 (zi p) s = some s' ∧ OUTg F N p D T ∧ BD s' (l ++ (D ++ T)) ∧ fr [38, 40] [27, 28, 33] s s' := by
  unfold f187
  rw [f236_eq h.dc, zb1_mk]
  have ep : (p : Int) - 1 = ((p - 1 : Nat) : Int) := by omega
  by_cases h0 : N = 0
  · rw [if_pos h0, if_neg (zne (by omega)), zi_sub, ep]
    obtain ⟨s', D, T, a1, a2, a3, a4⟩ := f185_eq h (pr := p - 1) (by omega) hl
    refine ⟨s', D, T, by rw [a1]; rfl, ?_, a3, a4⟩
    obtain ⟨t, b1, b2, b3⟩ := a2
    subst h0
    rw [rnd_zero] at *
    refine ⟨0, -((p - 1 : Nat) : Int), 0, ⟨0, .inl ⟨rfl, rfl⟩, by omega, (rnd_zero _).symm, .inl ⟨rfl, rfl⟩⟩, fun c => absurd c (by omega), fun _ => ⟨?_, ?_⟩⟩
    · have ht : t ≤ 0 := by
        rcases b1 with g | g
        · exact g.2
        · exact absurd rfl g.ne
      rw [b2]
      unfold whl
      have e1 : max t 0 = max (0 : Int) 0 := by omega
      rw [e1]
    · rw [b3]
      have e1 : ((p : Int) - 1 - 0).toNat = p - 1 := by omega
      rw [e1]
  · obtain ⟨t, t1, t2, t3⟩ := f237_eq h.dc h0
    have hb := hV.top (.inr ⟨h0, t1⟩)
    rw [if_neg h0, if_pos rfl, t2, zb1_mk, zi_sub, zi_add]
    obtain ⟨s1, T, a1, a2, a3, a4, a5, a6⟩ := h.round (q := t - p + 1) (by omega) (by omega)
    have eq : t - (p : Int) + 1 = t - ((p - 1 : Nat) : Int) := by omega
    have hT : TopR (rnd N (t - p + 1)) (t - p + 1) T := a3.resolve_left (fun g => top_rnd t1 (by omega) (by omega) g.1)
    have h1 := TopR_ge t1 (by omega) (by omega) hT
    have h2 := TopR_le t1 (by omega) (by omega) hT
    have hR : RND N (p - 1) (rnd N (t - p + 1)) (t - p + 1) T := ⟨t, .inr ⟨h0, t1⟩, eq, rfl, .inr ⟨h0, hT⟩⟩
    rw [a1, zb0_mk, a2.rd.1]
    have sci : (T < -4 ∨ (p : Int) ≤ T) → ∃ s' D T, f187_65 (zi p) s1 = some s' ∧ OUTg F N p D T ∧ BD s' (l ++ (D ++ T)) ∧ fr [38, 40] [27, 28, 33] s s' := by
      intro c
      obtain ⟨s', D, T', b1, b2, b3, b4⟩ := f186_eq a6 hV (pr := p - 1) (by omega) hl
      refine ⟨s', D, T', ?_, ?_, b3, (a5.up rfl rfl).trans b4⟩
      · unfold f187_65
        rw [zi_sub, ep, b1]
        rfl
      · obtain ⟨R, q, t', c1, c2, c3⟩ := b2
        obtain ⟨_, _, c4⟩ := c1.uniq hR
        rw [← c4] at c
        exact ⟨R, q, t', c1, fun _ => ⟨c2, c3⟩, fun c' => absurd c c'⟩
    by_cases c1 : T < -4
    · rw [if_pos (zlt (by omega))]
      exact sci (.inl c1)
    · rw [if_neg (znlt (by omega))]
      by_cases c2 : (p : Int) ≤ T
      · rw [if_pos (zge (by omega))]
        exact sci (.inr c2)
      · rw [if_neg (znge (by omega)), zi_sub, zi_sub]
        obtain ⟨w, hw⟩ : ∃ w : Nat, (p : Int) - 1 - T = w := ⟨((p : Int) - 1 - T).toNat, by omega⟩
        rw [hw]
        obtain ⟨s', D, T', b1, b2, b3, b4⟩ := f185_eq a6 (pr := w) (by omega) hl
        refine ⟨s', D, T', by rw [b1]; rfl, ?_, b3, (a5.up rfl rfl).trans b4⟩
        refine ⟨_, _, T, hR, fun c => absurd c (by omega), fun _ => ?_⟩
        have ew : ((p : Int) - 1 - T).toNat = w := by omega
        rw [ew]
        obtain ⟨t', d1, d2, d3⟩ := b2
        rcases (show T = t ∨ T = t + 1 by omega) with e | e
        · have e1 : -(w : Int) = t - p + 1 := by omega
          rw [e1] at d1 d2 d3
          have e2 : t' = T := by
            rcases d1 with g | g
            · exact absurd g.1 hT.ne
            · exact g.uniq hT
          rw [d2, d3, e2]
          exact ⟨rfl, rfl⟩
        · have e1 : -(w : Int) = (t - p + 1) + 1 := by omega
          rw [e] at hT
          obtain ⟨k1, k2⟩ := carry_rnd t1 (by omega) (by omega) hT
          rw [e1, k2] at d1 d2 d3
          have hdg : ∀ x, rdg (10 ^ (t - (t - p + 1)).toNat) (t - p + 1 + 1) x = rdg (rnd N (t - p + 1)) (t - p + 1) x := by
            intro x
            rw [k1, rdg_pow, rdg_pow]
            have e5 : (t - p + 1 + 1 + ((t - (t - p + 1)).toNat : Int)) = t - p + 1 + ((t + 1 - (t - p + 1)).toNat : Int) := by omega
            rw [e5]
          have e2 : t' = T := by
            have g2 : TopR (10 ^ (t - (t - (p : Int) + 1)).toNat) (t - p + 1 + 1) T := by
              refine ⟨by omega, ?_, ?_⟩
              · exact Nat.pow_le_pow_right (by decide) (by omega)
              · exact Nat.pow_lt_pow_right (by decide) (by omega)
            rcases d1 with g | g
            · exact absurd g.1 g2.ne
            · exact g.uniq g2
          rw [d2, d3, e2]
          unfold whl frac
          rw [dl_congr hdg, dl_congr hdg]
          exact ⟨rfl, rfl⟩
/-! what is written -/
theorem expo_asc (t : Int) : asc (expo t) := by
  intro v hv
  unfold expo at hv
  rcases List.mem_cons.mp hv with rfl | hv
  · omega
  · rcases List.mem_cons.mp hv with rfl | hv
    · split <;> omega
    · exact ds_asc _ _ v hv
theorem expo_len {t : Int} (ht : t.natAbs ≤ 999) : (expo t).length ≤ 5 := by
  unfold expo
  rw [List.length_cons, List.length_cons, ds_len]
  have := kk_le (N := t.natAbs) (a := 2) (m := 3) (by omega) (by omega) (by omega)
  omega
/-- it is a text: digits, then no digit at first -/
def TXT (D T : List Int) : Prop := (∀ v, v ∈ D → dgt v) ∧ asc T ∧ (∀ v r, T = v :: r → ¬ dgt v) ∧ D.length ≤ 320 ∧ T.length ≤ 1150
theorem frac_head (R : Nat) (q : Int) (F : Int32) (hi : Int) (pr : Nat) : frac R q F hi pr = [] ∨ ∃ r, frac R q F hi pr = 46 :: r := by
  unfold frac
  split
  · exact .inr ⟨_, rfl⟩
  · exact .inl rfl
theorem TXT.fix {R : Nat} {q t : Int} {F : Int32} {pr : Nat} (ht : t ≤ 310) (hpr : pr ≤ 1140) : TXT (whl R q t) (frac R q F (-1) pr) := by
  refine ⟨dl_dgt _ _ _ _, frac_asc _ _ _ _ _, fun v r e => ?_, by unfold whl; rw [dl_len]; omega, by have := frac_len R q F (-1) pr; omega⟩
  rcases frac_head R q F (-1) pr with g | ⟨r', g⟩
  · rw [g] at e
    cases e
  · rw [g] at e
    cases e
    unfold dgt
    omega
theorem TXT.sci {R : Nat} {q t : Int} {F : Int32} {pr : Nat} (ht : t.natAbs ≤ 999) (hpr : pr ≤ 1140) : TXT (sciD R q t) (sciT R q F t pr) := by
  refine ⟨fun v hv => ?_, ?_, fun v r e => ?_, by unfold sciD; show 1 ≤ 320; omega, ?_⟩
  · unfold sciD at hv
    have := rdg_lt R q t
    rcases List.mem_cons.mp hv with rfl | hv
    · exact ⟨by omega, by omega⟩
    · cases hv
  · unfold sciT
    exact (frac_asc _ _ _ _ _).append (expo_asc _)
  · unfold sciT at e
    rcases frac_head R q F (t - 1) pr with g | ⟨r', g⟩
    · rw [g] at e
      unfold expo at e
      cases e
      unfold dgt
      omega
    · rw [g] at e
      cases e
      unfold dgt
      omega
  · unfold sciT
    rw [List.length_append]
    have := frac_len R q F (t - 1) pr
    have := expo_len ht
    omega
theorem RND.range {N pr R : Nat} {q t : Int} (h : RND N pr R q t) (hV : VB N) (hpr : pr ≤ 1200) : -331 ≤ t ∧ t ≤ 309 := by
  obtain ⟨t0, h1, rfl, rfl, h2⟩ := h
  have hb := hV.top h1
  rcases h2 with ⟨_, h3⟩ | ⟨h3, h4⟩
  · omega
  · rcases h1 with ⟨g1, _⟩ | ⟨_, g2⟩
    · exact absurd g1 h3
    · have := TopR_ge g2 (by omega) (by omega) h4
      have := TopR_le g2 (by omega) (by omega) h4
      omega
theorem OUT.txt {F : Int32} {cv : Int} {N pr : Nat} {D T : List Int} (h : OUT F cv N pr D T) (hcv : cv = 101 ∨ cv = 102 ∨ cv = 103) (hV : VB N) (hpr : pr ≤ 1100) : TXT D T := by
  rcases hcv with e | e | e
  · obtain ⟨R, q, t, h1, rfl, rfl⟩ := h.1 e
    have := h1.range hV (by omega)
    exact TXT.sci (by omega) (by omega)
  · obtain ⟨t, h1, rfl, rfl⟩ := h.2.1 e
    refine TXT.fix ?_ (by omega)
    rcases h1 with g | g
    · omega
    · by_cases h0 : N = 0
      · rw [h0, rnd_zero] at g
        exact absurd rfl g.ne
      · -- as high as N, or just above
        rcases Int.lt_or_le 310 t with c | c
        · have g1 := g.2.1
          have hlt : N / 10 ^ (3780 + -(pr : Int)).toNat < 10 ^ (309 + pr) := by
            refine Nat.div_lt_of_lt_mul ?_
            rw [← Nat.pow_add]
            refine Nat.lt_of_lt_of_le hV.1 (Nat.pow_le_pow_right (by decide) (by omega))
          have hr : rnd N (-(pr : Int)) ≤ 10 ^ (309 + pr) := by
            unfold rnd
            split <;> omega
          have : 10 ^ (309 + pr) < 10 ^ (t - -(pr : Int)).toNat := Nat.pow_lt_pow_right (by decide) (by omega)
          omega
        · exact c
  · obtain ⟨R, q, t, h1, h2, h3⟩ := h.2.2 e
    have := h1.range hV (by omega)
    by_cases c : t < -4 ∨ ((max pr 1 : Nat) : Int) ≤ t
    · obtain ⟨rfl, rfl⟩ := h2 c
      exact TXT.sci (by omega) (by omega)
    · obtain ⟨rfl, rfl⟩ := h3 c
      exact TXT.fix (by omega) (by omega)
theorem OUT.uniq {F : Int32} {cv : Int} {N pr : Nat} {D T D' T' : List Int} (hcv : cv = 101 ∨ cv = 102 ∨ cv = 103) (h : OUT F cv N pr D T) (g : OUT F cv N pr D' T') : D = D' ∧ T = T' := by
  rcases hcv with e | e | e
  · exact (h.1 e).uniq (g.1 e)
  · exact (h.2.1 e).uniq (g.2.1 e)
  · exact (h.2.2 e).uniq (g.2.2 e)
theorem m184_efg {s : zS} {N a b : Nat} {F : Int32} (h : MS s N a b F []) (hV : VB N) {W m cv pr : Int} (hM : MD s [] 0) (h16 : s.1 24 16 = zi W) (hW : -1 ≤ W) (hW2 : W ≤ 2000) (h17 : s.1 24 17 = zi pr) (h18 : s.1 24 18 = zi cv) (hp1 : -1 ≤ pr) (hp2 : pr ≤ 1100) (hm : m = 0 ∨ m = 1) (hcv : cv = 101 ∨ cv = 102 ∨ cv = 103) :
    ∃ s' D T, (if (s.1 24 17) ≥ zi 0 then f184_184 (zi m) (s.1 24 17) s else f184_184 (zi m) (zi 6) s) = some s' ∧ OUT F cv N (if pr < 0 then 6 else pr.toNat) D T ∧ MD s' (laidL F W m 0 1 D T) (laidL F W m 0 1 D T).length ∧ fr [38, 39, 40] [27, 28, 30, 31, 33] s s' := by
  obtain ⟨y, hy, hy2⟩ : ∃ y : Nat, y = (if pr < 0 then 6 else pr.toNat) ∧ y ≤ 1100 := ⟨_, rfl, by split <;> omega⟩
  rw [← hy]
  have e0 : (if (s.1 24 17) ≥ zi 0 then f184_184 (zi m) (s.1 24 17) s else f184_184 (zi m) (zi 6) s) = f184_184 (zi m) (zi y) s := by
    rw [h17]
    by_cases c : pr < 0
    · rw [if_neg (znge (by omega))]
      rw [if_pos c] at hy
      rw [hy]
      rfl
    · rw [if_pos (zge (by omega))]
      rw [if_neg c] at hy
      have e2 : pr = (y : Int) := by omega
      rw [e2]
  rw [e0]
  -- body, then laid
  have fin : ∀ (s1 : zS) (D T : List Int), OUT F cv N y D T → BD s1 ([] ++ (D ++ T)) → fr [38, 40] [27, 28, 33] s s1 → ∃ s' D T, f184_237 (zi m) s1 = some s' ∧ OUT F cv N y D T ∧ MD s' (laidL F W m 0 1 D T) (laidL F W m 0 1 D T).length ∧ fr [38, 39, 40] [27, 28, 30, 31, 33] s s' := by
    intro s1 D T hO hB hf
    obtain ⟨t1, t2, t3, t4, t5⟩ := hO.txt hcv hV (by omega)
    obtain ⟨s', a1, a2, a3⟩ := laid_eq (s := s1) (l := []) (w := 0) (F := F) (W := W) (m := m) (h := 0) (zr := 1) (D := D) (T := T) (hM.mv hf rfl rfl rfl rfl) hB (by rw [hf.1 24 15 rfl (fun _ => rfl)]; exact h.fl) (by rw [hf.1 24 16 rfl (fun _ => rfl)]; exact h16) hW hW2 hm (.inl rfl) (.inr rfl) t1 t2.byt t3 (by omega) (by show 0 ≤ 1000; omega)
    refine ⟨s', D, T, by unfold f184_237; rw [a1]; rfl, hO, ?_, (hf.up rfl rfl).trans (a3.up rfl rfl)⟩
    rw [List.nil_append, Int.zero_add] at a2
    exact a2
  unfold f184_184
  rw [h18]
  rcases hcv with e | e | e
  · subst e
    obtain ⟨s1, D, T, a1, a2, a3, a4⟩ := f186_eq h hV (pr := y) (by omega) (Nat.zero_le _)
    obtain ⟨s', D', T', b1, b2, b3, b4⟩ := fin s1 D T ⟨fun _ => a2, fun e => by omega, fun e => by omega⟩ a3 a4
    refine ⟨s', D', T', ?_, b2, b3, b4⟩
    rw [if_pos (show ¬ zi 101 = zi 102 from zne (by omega)), if_neg (not_not_intro rfl), a1, zb0_mk]
    exact b1
  · subst e
    obtain ⟨s1, D, T, a1, a2, a3, a4⟩ := f185_eq h (pr := y) (by omega) (Nat.zero_le _)
    obtain ⟨s', D', T', b1, b2, b3, b4⟩ := fin s1 D T ⟨fun e => by omega, fun _ => a2, fun e => by omega⟩ a3 a4
    refine ⟨s', D', T', ?_, b2, b3, b4⟩
    rw [if_neg (not_not_intro rfl), a1, zb0_mk]
    exact b1
  · subst e
    obtain ⟨s1, D, T, a1, a2, a3, a4⟩ := f187_eq h hV (p := max y 1) (by omega) (by omega) (Nat.zero_le _)
    obtain ⟨s', D', T', b1, b2, b3, b4⟩ := fin s1 D T ⟨fun e => by omega, fun e => by omega, fun _ => a2⟩ a3 a4
    refine ⟨s', D', T', ?_, b2, b3, b4⟩
    rw [if_pos (show ¬ zi 103 = zi 102 from zne (by omega)), if_pos (show ¬ zi 103 = zi 101 from zne (by omega))]
    have ey : (if ¬ zi (y : Int) = zi 0 then f184_234 (zi m) (zi y) s else f184_234 (zi m) (zi 1) s) = f184_234 (zi m) (zi (max y 1 : Nat)) s := by
      by_cases c : y = 0
      · subst c
        rw [if_neg (not_not_intro (zeq (by omega)))]
        rfl
      · have e9 : max y 1 = y := by omega
        rw [if_pos (zne (by omega)), e9]
    rw [ey]
    unfold f184_234
    rw [a1, zb0_mk]
    exact b1
