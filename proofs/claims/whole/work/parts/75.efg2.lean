/-! NaN, Infinity, and e, f, g: both write alike -/
theorem nan_D {U : Nat} : nanB 52 11 U ↔ (rB 52 11 U = 2047 ∧ ¬ rF 52 U = 0) := Iff.rfl
theorem inf_D {U : Nat} : infB 52 11 U ↔ (rB 52 11 U = 2047 ∧ rF 52 U = 0) := Iff.rfl
theorem m58_nan {U : Nat} (hU : U < 18446744073709551616) (h : nanB 52 11 U) {y0 : Int32} (s : zS) : f184_58 (zl U) y0 s = zb0 (f176 63 (setI s 24 33 (zi 0))) (fun s1 => some s1) := by
  have hd := d64 hU
  unfold f184_58 f184_78
  rw [r168_eq hd, if_pos (nan_D.mp h), if_pos (show ¬ zi 1 = zi 0 from zne (by omega)), if_neg (show ¬ zi 1 = zi 0 from zne (by omega))]
theorem m58_inf {U : Nat} (hU : U < 18446744073709551616) (h : infB 52 11 U) {y0 : Int32} (s : zS) : f184_58 (zl U) y0 s = f184_99 zF y0 (zi 0) (setI s 24 33 (zi 0)) := by
  have hd := d64 hU
  have hi := inf_D.mp h
  unfold f184_58 f184_78
  rw [r168_eq hd, r169_eq hd, if_neg (show ¬ (rB 52 11 U = 2047 ∧ ¬ rF 52 U = 0) from fun g => g.2 hi.2), if_pos (show rB 52 11 U = 2047 ∧ rF 52 U = 0 from hi), if_neg (show ¬ ¬ zi 0 = zi 0 from not_not_intro rfl), if_neg (show ¬ zi 1 = zi 0 from zne (by omega)), if_pos rfl]
theorem m58_fin {U : Nat} (hU : U < 18446744073709551616) (h1 : ¬ nanB 52 11 U) (h2 : ¬ infB 52 11 U) {y0 : Int32} (s : zS) : f184_58 (zl U) y0 s = if ¬ (s.1 24 18) = (zi 97) then zb0 (f234 32 (zl (rM 52 11 U : Int)) (zi (-1074 + rE 52 11 U - 1)) (setI s 24 33 (zi 0))) (fun s1 => if (s1.1 24 17) ≥ zi 0 then f184_184 y0 (s1.1 24 17) s1 else f184_184 y0 (zi 6) s1) else zb0 (f188 (zl U) (setI s 24 33 (zi 0))) (fun s2 => zb0 (f182 y0 (zi 1) (zi 1) s2) (fun s3 => some s3)) := by
  have hd := d64 hU
  unfold f184_58
  rw [r168_eq hd, r169_eq hd, if_neg (show ¬ (rB 52 11 U = 2047 ∧ ¬ rF 52 U = 0) from h1), if_neg (show ¬ (rB 52 11 U = 2047 ∧ rF 52 U = 0) from h2), if_neg (show ¬ ¬ zi 0 = zi 0 from not_not_intro rfl), if_pos rfl, r166_eq hd, r167_eq hd]
theorem m39 {U : Nat} (hU : U < 18446744073709551616) (s : zS) : ∃ y : Int, (¬ nanB 52 11 U → y = (rS 52 11 U : Nat)) ∧ f184_39 (zl U) s = f184_58 (zl U) (zi y) s := by
  have hd := d64 hU
  have hS : rS 52 11 U ≤ 1 := hd.2.1
  unfold f184_39
  by_cases c : rS 52 11 U = 0
  · exact ⟨0, fun _ => by omega, by rw [if_pos ((m_sign hd).mpr c)]⟩
  · by_cases c2 : nanB 52 11 U
    · refine ⟨0, fun h => absurd c2 h, ?_⟩
      rw [if_neg (fun g => c ((m_sign hd).mp g)), r168_eq hd, if_pos (nan_D.mp c2), if_pos (show ¬ zi 1 = zi 0 from zne (by omega))]
    · refine ⟨1, fun _ => by omega, ?_⟩
      rw [if_neg (fun g => c ((m_sign hd).mp g)), r168_eq hd, if_neg (show ¬ (rB 52 11 U = 2047 ∧ ¬ rF 52 U = 0) from c2), if_neg (show ¬ ¬ zi 0 = zi 0 from not_not_intro rfl)]
theorem CV_nan {F : Int32} {W pr cv su k c m : Int} {a n : Nat} {t : List Int} (ha : arel k c m t) (hk : k = 7 ∨ k = 8) (hcv : rCv cv) (hn : nanB (fbU (small k)) (ebU (small k)) (bitsU c (small k))) : CV F W pr cv su k c m a n t := by
  obtain ⟨U, hW, hU⟩ := r_wide ha hk
  have hlit := lit_small (c := 17) (by decide)
  refine ⟨lit 17, 0, -1, lit 17, (lit 17).length, PR.plain (lit_asc (by decide)) (by omega) W F, fun s h hP => ?_, fun s h hM => ?_⟩
  · obtain ⟨s', a1, a2, a3⟩ := (f103_eq (c := c) (small01 k) h.1 hP).1 hn
    exact ⟨s', by rw [rC h hk hcv, a1]; rfl, a2, a3⟩
  · have hn' := hW.2.2.1.mpr hn
    obtain ⟨y, _, e1⟩ := m39 hW.1 s
    have hM1 : MD (setI s 24 33 (zi 0)) [] 0 := hM
    obtain ⟨s1, a1, a2, a3⟩ := hM1.say (c := 63) (by decide) (by show 0 ≤ 11000; omega)
    have hf : fr [39] [30, 31, 33] s s1 := (fr.refl.sI (.inr ⟨rfl, rfl⟩)).trans (a3.up rfl rfl)
    refine ⟨s1, ?_, ?_, R6.fr hf h.2.2.2.2.2.2.2.2.2.2 rfl rfl rfl rfl rfl rfl, hf.up rfl rfl⟩
    · rw [rM_entry h hk hcv, r184 h hU, e1, m58_nan hW.1 hn', a1]
      rfl
    · rw [lit_nan]
      rw [List.nil_append, Int.zero_add] at a2
      exact a2
theorem CV_inf {F : Int32} {W pr cv su k c m : Int} {a n : Nat} {t : List Int} (ha : arel k c m t) (hk : k = 7 ∨ k = 8) (hcv : rCv cv) (hW1 : -1 ≤ W) (hW2 : W ≤ 2000) (hn : infB (fbU (small k)) (ebU (small k)) (bitsU c (small k))) : CV F W pr cv su k c m a n t := by
  obtain ⟨U, hW, hU⟩ := r_wide ha hk
  obtain ⟨S, hS⟩ : ∃ S : Nat, S = rS (fbU (small k)) (ebU (small k)) (bitsU c (small k)) := ⟨_, rfl⟩
  have hS01 : (S : Int) = 0 ∨ (S : Int) = 1 := by
    rw [hS]
    unfold rS
    omega
  have h18 : (lit 18).length = 8 := by decide +kernel
  have hsl := sgnL_len F S
  have hcl := clsL_len F S
  have e0 : laidL F W S 0 0 [] (lit 64) = sgnL F S ++ (lit 18 ++ clsL F S) := by
    unfold laidL laidA laidB bodL laidZ hxL
    rw [if_neg (show ¬ (0 : Int) = 1 by decide), if_neg (fun h => absurd h.2 (by decide)), if_neg (fun h => absurd h.2 (by decide)), lit_inf, List.append_nil, List.nil_append, List.nil_append]
  refine ⟨sgnL F S ++ (lit 18 ++ clsL F S), 0, -1, _, _, PR.plain ((sgnL_asc _ _).append ((lit_asc (by decide)).append (clsL_asc _ _))) (by rw [List.length_append, List.length_append]; omega) W F, fun s h hP => ?_, fun s h hM => ?_⟩
  · obtain ⟨s', a1, a2, a3⟩ := (f103_eq (c := c) (small01 k) h.1 hP).2.1 hn
    rw [← hS] at a2
    exact ⟨s', by rw [rC h hk hcv, a1]; rfl, a2, a3⟩
  · have hn' := hW.2.2.2.1.mpr hn
    obtain ⟨y, hy, e1⟩ := m39 hW.1 s
    have hy' : y = S := by
      rw [hy (fun g => g.2 hn'.2), hW.2.1, hS]
    subst hy'
    obtain ⟨s1, a1, a2, a3⟩ := f184_99_loop (m := (S : Int)) 8 0 zF (setI s 24 33 (zi 0)) [] (by omega) (by unfold zF; omega) ⟨rfl, isL_nil⟩ (by show 0 + 8 ≤ 100; omega)
    have hf : fr [39, 40] [30, 31, 33] s s1 := (fr.refl.sI (.inr ⟨rfl, rfl⟩)).trans (a3.up rfl rfl)
    have hM1 : MD s1 [] 0 := hM.mv (A := [40]) (B := [33]) ((fr.refl.sI (.inr ⟨rfl, rfl⟩)).trans a3) rfl rfl rfl rfl
    obtain ⟨s2, b1, b2, b3⟩ := laid_eq (s := s1) (l := []) (w := 0) (F := F) (W := W) (m := S) (h := 0) (zr := 0) (D := []) (T := lit 64) hM1 a2 (by rw [hf.1 24 15 rfl (fun _ => rfl)]; exact h.1) (by rw [hf.1 24 16 rfl (fun _ => rfl)]; exact h.2.1) hW1 hW2 hS01 (.inl rfl) (.inl rfl) (fun v hv => by cases hv) (lit_asc (by decide)).byt inf_head (by rw [← lit_inf]; show 0 + _ ≤ 2000; omega) (by show 0 ≤ 1000; omega)
    have hf2 : fr [39, 40] [30, 31, 33] s s2 := hf.trans (b3.up rfl rfl)
    refine ⟨s2, ?_, ?_, R6.fr hf2 h.2.2.2.2.2.2.2.2.2.2 rfl rfl rfl rfl rfl rfl, hf2.up rfl rfl⟩
    · have a1' : f184_99 zF (zi (S : Int)) (zi 0) (setI s 24 33 (zi 0)) = zb0 (f182 (zi (S : Int)) (zi 0) (zi 0) s1) (fun s1 => some s1) := a1
      rw [rM_entry h hk hcv, r184 h hU, e1, m58_inf hW.1 hn', a1', b1]
      rfl
    · rw [e0] at b2
      rw [List.nil_append, Int.zero_add] at b2
      exact b2
/-- what a finite real has -/
theorem fin_range {c : Int} {sm : Int} (hsm : sm = 0 ∨ sm = 1) (h1 : ¬ nanB (fbU sm) (ebU sm) (bitsU c sm)) (h2 : ¬ infB (fbU sm) (ebU sm) (bitsU c sm)) : rM (fbU sm) (ebU sm) (bitsU c sm) < 9007199254740992 ∧ -1074 ≤ loU sm + rE (fbU sm) (ebU sm) (bitsU c sm) - 1 ∧ loU sm + rE (fbU sm) (ebU sm) (bitsU c sm) - 1 ≤ 971 := by
  have hne : rB (fbU sm) (ebU sm) (bitsU c sm) ≠ 2 ^ ebU sm - 1 := by
    intro e
    by_cases g : rF (fbU sm) (bitsU c sm) = 0
    · exact h2 ⟨e, g⟩
    · exact h1 ⟨e, g⟩
  have hB : rB (fbU sm) (ebU sm) (bitsU c sm) < 2 ^ ebU sm := Nat.mod_lt _ (Nat.pow_pos (by decide))
  have hF : rF (fbU sm) (bitsU c sm) < 2 ^ fbU sm := Nat.mod_lt _ (Nat.pow_pos (by decide))
  unfold rM rE
  generalize rB (fbU sm) (ebU sm) (bitsU c sm) = B at *
  generalize rF (fbU sm) (bitsU c sm) = G at *
  have e1 : (2 : Nat) ^ 52 = 4503599627370496 := by decide
  have e2 : (2 : Nat) ^ 23 = 8388608 := by decide
  have e3 : (2 : Nat) ^ 11 = 2048 := by decide
  have e4 : (2 : Nat) ^ 8 = 256 := by decide
  rcases hsm with rfl | rfl
  · have f1 : fbU 0 = 52 := rfl
    have f2 : ebU 0 = 11 := rfl
    have f3 : loU 0 = -1074 := rfl
    rw [f1, e1] at hF
    rw [f2, e3] at hB hne
    rw [f1, f3, e1]
    refine ⟨by split <;> omega, by split <;> omega, by split <;> omega⟩
  · have f1 : fbU 1 = 23 := rfl
    have f2 : ebU 1 = 8 := rfl
    have f3 : loU 1 = -149 := rfl
    rw [f1, e2] at hF
    rw [f2, e4] at hB hne
    rw [f1, f3, e2]
    refine ⟨by split <;> omega, by split <;> omega, by split <;> omega⟩
theorem CV_efg {F : Int32} {W pr cv su k c m : Int} {a n : Nat} {t : List Int} (hv : vald F W pr cv k c m t) (hk : k = 7 ∨ k = 8) (hcv : cv = 101 ∨ cv = 102 ∨ cv = 103) : CV F W pr cv su k c m a n t := by
  obtain ⟨ha, _, _, hf, hW1, hW2, hp1, hp2, _⟩ := hv
  have hcv' : rCv cv := .inr hcv
  by_cases hn : nanB (fbU (small k)) (ebU (small k)) (bitsU c (small k))
  · exact CV_nan ha hk hcv' hn
  by_cases hi : infB (fbU (small k)) (ebU (small k)) (bitsU c (small k))
  · exact CV_inf ha hk hcv' (by omega) hW2 hi
  obtain ⟨U, hW, hU⟩ := r_wide ha hk
  obtain ⟨r1, r2, r3⟩ := fin_range (small01 k) hn hi
  obtain ⟨S, hS⟩ : ∃ S : Nat, S = rS (fbU (small k)) (ebU (small k)) (bitsU c (small k)) := ⟨_, rfl⟩
  have hS01 : (S : Int) = 0 ∨ (S : Int) = 1 := by
    rw [hS]
    unfold rS
    omega
  obtain ⟨N, hN⟩ := SV_ex (rM (fbU (small k)) (ebU (small k)) (bitsU c (small k))) (X := loU (small k) + rE (fbU (small k)) (ebU (small k)) (bitsU c (small k)) - 1) (by omega)
  have hV := VB_of hN r1 (by omega) r3
  obtain ⟨y, hy, hy2⟩ : ∃ y : Nat, y = (if pr < 0 then 6 else pr.toNat) ∧ y ≤ 1100 := ⟨_, rfl, by split <;> omega⟩
  obtain ⟨D, T, hO⟩ := OUT_ex (F := F) (cv := cv) hN r1 (by omega) r3 hcv (y := y) (by omega)
  obtain ⟨t1, t2, t3, t4, t5⟩ := hO.txt hcv hV hy2
  have hsl := sgnL_len F S
  have hcl := clsL_len F S
  have hcm := cmF_len F D
  have eA : laidA F S 0 = sgnL F S := by
    unfold laidA hxL
    rw [if_neg (show ¬ (0 : Int) = 1 by decide), List.append_nil]
  have eB : laidB F S 1 D T = cmF F D ++ T ++ clsL F S := by
    unfold laidB bodL cmF
    by_cases q : hasF F 32
    · rw [if_pos ⟨q, rfl⟩, if_pos q]
    · rw [if_neg (fun h => q h.1), if_neg q]
  have hca : asc (cmF F D) := by
    unfold cmF
    split
    · have : ∀ L : List Int, (∀ v, v ∈ L → dgt v) → asc (cmD L) := by
        intro L
        induction L with
        | nil => intro _ v hv; cases hv
        | cons x r ih =>
          intro h v hv
          have ihr := ih (fun w hw => h w (List.mem_cons_of_mem _ hw))
          have hx := h x List.mem_cons_self
          unfold dgt at hx
          unfold cmD at hv
          rcases List.mem_cons.mp hv with rfl | hv
          · omega
          · split at hv
            · rcases List.mem_cons.mp hv with rfl | hv
              · omega
              · exact ihr v hv
            · exact ihr v hv
      exact this D t1
    · exact dgt_asc t1
  have hR := laid_PR (F := F) (W := W) (m := S) (h := 0) (D := D) (T := T) (by rw [eA]; exact sgnL_asc _ _) (by rw [eB]; exact (hca.append t2).append (clsL_asc _ _)) (by rw [eA, eB, List.length_append, List.length_append, List.length_append]; omega) (flt_16_1 hf)
  refine ⟨_, _, _, _, _, hR, fun s h hP => ?_, fun s h hM => ?_⟩
  · obtain ⟨s2, a1, a2, a3, a4⟩ := (f103_eq (c := c) (small01 k) h.1 hP).2.2 hn hi
    rw [← hS] at a2
    have hF2 : s2.1 7 2 = F := by rw [a3.f rfl (by decide)]; exact h.1
    obtain ⟨s3, b1, b2, b3⟩ := a2.mark hF2
    have e5 : s3.2.1 15 5 = zl (rM (fbU (small k)) (ebU (small k)) (bitsU c (small k)) : Nat) := by rw [b3.l rfl]; exact a1.2.2.2.1
    have e6 : s3.1 15 6 = zi (loU (small k) + rE (fbU (small k)) (ebU (small k)) (bitsU c (small k)) - 1) := by rw [b3.f rfl (by decide)]; exact a1.2.2.2.2.1
    obtain ⟨s4, N', P, cnt, c1, c2, c3, c4⟩ := f113_eq (M := rM (fbU (small k)) (ebU (small k)) (bitsU c (small k))) (by omega) (X := loU (small k) + rE (fbU (small k)) (ebU (small k)) (bitsU c (small k)) - 1) (by omega) (by omega) s3
    obtain rfl := hN.uniq c3
    have f3 : fr [13, 14, 15, 16, 17, 18] [] s s4 := ((a3.up rfl rfl).trans (b3.up rfl rfl)).trans (c4.up rfl rfl)
    obtain ⟨s5, D', T', d1, d2, d3, d4⟩ := f104_eq c2 hV (F := F) (cv := cv) (pr := pr) (by rw [f3.f rfl (by decide)]; exact h.1) (by rw [f3.f rfl (by decide)]; exact h.2.2.1) (by rw [f3.f rfl (by decide)]; exact h.2.2.2.1) hp1 hp2 hcv (b2.mv c4 rfl rfl) (by omega)
    rw [← hy] at d3
    obtain ⟨rfl, rfl⟩ := hO.uniq hcv d3
    have f5 : fr [13, 14, 15, 16, 17, 18] [] s s5 := f3.trans (d4.up rfl rfl)
    obtain ⟨s6, g1, g2, g3⟩ := d2.close (F := F) (by rw [f5.f rfl (by decide)]; exact h.1) hS01 (by rw [List.length_append, List.length_append]; omega)
    refine ⟨s6, ?_, ?_, (f5.up rfl rfl).trans (g3.up rfl rfl)⟩
    · have e54 : r54 s2 = zi cv := (congrFun (a3.f (a := 7) rfl (by decide)) 6).trans h.2.2.2.1
      have e2 : s5.1 15 2 = zi (S : Int) := by
        rw [d4.f rfl (by decide), c4.f rfl (by decide), b3.f rfl (by decide), hS]
        exact a1.1
      rw [rC h hk hcv', a4, e54, if_pos (zne (by omega)), b1, zb0_mk, e5, e6, c1, zb0_mk, d1, zb0_mk]
      unfold f103_90
      rw [e2, g1]
      rfl
    · rw [eA, eB]
      rw [List.append_assoc] at g2
      exact g2
  · obtain ⟨y', hy', e1⟩ := m39 hW.1 s
    have hn' : ¬ nanB 52 11 U := fun g => hn (hW.2.2.1.mp g)
    have hi' : ¬ infB 52 11 U := fun g => hi (hW.2.2.2.1.mp g)
    have hy3 : y' = S := by rw [hy' hn', hW.2.1, hS]
    subst hy3
    obtain ⟨j, j1, j2⟩ := hW.2.2.2.2 hn hi
    have hU64 := d64 hW.1
    have hM53 : rM 52 11 U < 9223372036854775808 := by
      have hh := hU64
      unfold D64 at hh
      unfold rM
      have e2 : (2 : Nat) ^ 52 = 4503599627370496 := by decide
      rw [e2]
      split <;> omega
    have hEr : 1 ≤ rE 52 11 U ∧ rE 52 11 U ≤ 2047 := by
      have hh := hU64
      unfold D64 at hh
      unfold rE
      split <;> omega
    have hR6 := h.2.2.2.2.2.2.2.2.2.2
    obtain ⟨s1, N', a', b', a1, a2, a3, a4⟩ := f234_eq (aa := 32) (.inl rfl) (M := rM 52 11 U) hM53 (X := -1074 + rE 52 11 U - 1) (by omega) (by omega) (s := setI s 24 33 (zi 0)) hR6.1
    have hN' := hN.shift j
    rw [← j1, ← j2] at hN'
    obtain rfl := hN'.uniq a3
    have f1 : fr [32, 33] [33] s s1 := (fr.refl.sI (.inr ⟨rfl, rfl⟩)).trans (a4.up rfl rfl)
    have hms : MS s1 N a' b' F [] := by
      refine ⟨a2, ⟨?_, isL_nil⟩, ?_⟩
      · rw [a4.1 24 33 rfl (fun _ => rfl)]
        rfl
      · rw [f1.1 24 15 rfl (fun _ => rfl)]
        exact h.1
    obtain ⟨s2, D', T', c1, c2, c3, c4⟩ := m184_efg hms hV (W := W) (m := S) (cv := cv) (pr := pr) (hM.mv f1 rfl rfl rfl rfl) (by rw [f1.1 24 16 rfl (fun _ => rfl)]; exact h.2.1) (by omega) hW2 (by rw [f1.1 24 17 rfl (fun _ => rfl)]; exact h.2.2.1) (by rw [f1.1 24 18 rfl (fun _ => rfl)]; exact h.2.2.2.1) hp1 hp2 hS01 hcv
    rw [← hy] at c2
    obtain ⟨rfl, rfl⟩ := hO.uniq hcv c2
    refine ⟨s2, ?_, c3, ⟨(a2.mv c4 (.inl rfl) rfl rfl).D6, D6.fr c4 (D6.fr f1 hR6.2.1 rfl rfl (by decide) (by decide)) rfl rfl (by decide) (by decide), D6.fr c4 (D6.fr f1 hR6.2.2 rfl rfl (by decide) (by decide)) rfl rfl (by decide) (by decide)⟩, (f1.up rfl rfl).trans (c4.up rfl rfl)⟩
    rw [rM_entry h hk hcv', r184 h hU, e1, m58_fin hW.1 hn' hi', h.2.2.2.1, if_pos (zne (by omega)), a1, zb0_mk, c1]
    rfl
