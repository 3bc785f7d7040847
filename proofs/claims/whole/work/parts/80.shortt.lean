/-! the shortest decimal: the edges, and the reference's text -/
theorem SV.mul {w : Nat} {X : Int} (h : SV w 1 X) (M : Nat) : SV (M * w) M X := by
  intro a b hab
  have e := h a b hab
  rw [Nat.one_mul] at e
  rw [Nat.mul_assoc, e, ← Nat.mul_assoc]
theorem SV.pos {w : Nat} {X : Int} (h : SV w 1 X) : 0 < w := by
  have e := h (-X).toNat X.toNat (by omega)
  apply Classical.byContradiction
  intro c
  have hw : w = 0 := by omega
  rw [hw, Nat.zero_mul, Nat.one_mul] at e
  have h1 : 0 < 2 ^ X.toNat * 10 ^ 3780 := Nat.mul_pos (Nat.pow_pos (by decide)) (p_pos _)
  rw [← e] at h1
  exact Nat.lt_irrefl _ h1
theorem SV.is {N M w : Nat} {X : Int} (h : SV N M X) (hw : SV w 1 X) : N = M * w := h.uniq (hw.mul M)
theorem SV.cast {N M : Nat} {X Y : Int} (h : SV N M X) (e : X = Y) : SV N M Y := e ▸ h
theorem EDG_c {N L H M w nr : Nat} {X : Int} (hw : SV w 1 X) (hN : SV N (4 * M) X) (hH : SV H (4 * M + 2) X) (hL : SV L (4 * M - (2 - nr)) X) (hM : 0 < M) (hM2 : M < 9007199254740992) (hnr : nr = 0 ∨ nr = 1 ∧ M ≤ 4503599627370496) : EDG N L H M w nr := by
  have e1 := hN.is hw
  have e2 := hH.is hw
  have e3 := hL.is hw
  have e4 : 4 * M * w = M * (4 * w) := by rw [Nat.mul_comm 4 M, Nat.mul_assoc]
  have e5 : (4 * M + 2) * w = 4 * M * w + 2 * w := Nat.add_mul _ _ _
  have e6 : 4 * M = (4 * M - (2 - nr)) + (2 - nr) := by omega
  have e7 : 4 * M * w = (4 * M - (2 - nr)) * w + (2 - nr) * w := by
    have := Nat.add_mul (4 * M - (2 - nr)) (2 - nr) w
    rw [← e6] at this
    exact this
  refine ⟨by rw [e1, e4], by rw [e1, e2, e5], ?_, hM, hw.pos⟩
  rcases hnr with rfl | ⟨rfl, h⟩
  · left
    refine ⟨rfl, ?_, hM2⟩
    rw [e3, e1, e7]
  · right
    refine ⟨rfl, ?_, h⟩
    have e8 : (2 - 1) * w = w := by omega
    rw [e8] at e7
    rw [e3, e1, e7]
theorem EDG_m {N L H M w nr : Nat} {X : Int} (hw : SV w 1 (X - 2)) (hN : SV N M X) (hH : SV H (2 * M + 1) (X - 1)) (hL : (nr = 0 ∧ SV L (2 * M - 1) (X - 1)) ∨ (nr = 1 ∧ SV L (4 * M - 1) (X - 2))) (hM : 0 < M) (hM2 : M < 9007199254740992) (hnr : nr = 0 ∨ nr = 1 ∧ M ≤ 4503599627370496) : EDG N L H M w nr := by
  have g1 : SV N (4 * M) (X - 2) := by
    have := hN.shift 2
    rw [Nat.mul_comm] at this
    exact this
  have g2 : SV H (4 * M + 2) (X - 2) := by
    have := (hH.shift 1).cast (Y := X - 2) (by omega)
    have e : (2 * M + 1) * 2 ^ 1 = 4 * M + 2 := by omega
    rw [e] at this
    exact this
  have g3 : SV L (4 * M - (2 - nr)) (X - 2) := by
    rcases hL with ⟨rfl, h⟩ | ⟨rfl, h⟩
    · have := (h.shift 1).cast (Y := X - 2) (by omega)
      have e : (2 * M - 1) * 2 ^ 1 = 4 * M - (2 - 0) := by omega
      rw [e] at this
      exact this
    · exact h
  exact EDG_c hw g1 g2 g3 hM hM2 hnr
theorem EDG.uniq {N L H N' L' H' M w nr : Nat} (h : EDG N L H M w nr) (g : EDG N' L' H' M w nr) : N = N' ∧ L = L' ∧ H = H' := by
  obtain ⟨h1, h2, h3, h4, h5⟩ := h
  obtain ⟨g1, g2, g3, g4, g5⟩ := g
  have e : N = N' := by rw [h1, g1]
  clear h1 g1
  subst e
  refine ⟨rfl, by omega, by omega⟩
theorem EDG.ord {N L H M w nr : Nat} (h : EDG N L H M w nr) : L ≠ 0 ∧ L < N ∧ N < H := by
  obtain ⟨h1, h2, h3, h4, h5⟩ := h
  have g : 1 * (4 * w) ≤ M * (4 * w) := Nat.mul_le_mul_right _ h4
  rw [← h1] at g
  omega
theorem top_rng {N : Nat} (hV : VB N) {T : Int} (hT : topN N T) : -331 ≤ T ∧ T ≤ 308 := by
  have h0 := top_ne hT
  obtain ⟨v1, v2⟩ := hV
  have v2 := v2.resolve_left h0
  obtain ⟨t0, t1, t2⟩ := hT
  constructor
  · apply Classical.byContradiction
    intro c
    have : 10 ^ (3781 + T).toNat ≤ 10 ^ 3450 := Nat.pow_le_pow_right (by decide) (by omega)
    exact Nat.lt_irrefl _ (Nat.lt_of_lt_of_le t2 (Nat.le_trans this v2))
  · apply Classical.byContradiction
    intro c
    have : 10 ^ 4089 ≤ 10 ^ (3780 + T).toNat := Nat.pow_le_pow_right (by decide) (by omega)
    exact Nat.lt_irrefl _ (Nat.lt_of_lt_of_le v1 (Nat.le_trans this t1))
theorem f171_eq {M nr w : Nat} {X : Int} (hM : 0 < M) (hM2 : M < 9007199254740992) (hX1 : -1074 ≤ X) (hX2 : X ≤ 971) (hnr : nr = 0 ∨ nr = 1 ∧ M ≤ 4503599627370496) (hw : SV w 1 (X - 2)) {s : zS} (h6 : R6 s) : ∃ s' N L H T k R T', f171 (zl M) (zi X) (zi nr) s = some s' ∧ EDG N L H M w nr ∧ topN N T ∧ -331 ≤ T ∧ T ≤ 308 ∧ SR N L H (M % 2 = 0) T k R ∧ RD s' R (T - k + 1) T' ∧ TopR R (T - k + 1) T' ∧ R6 s' ∧ fr [32, 33, 34, 35, 36, 37, 38] [27, 28] s s' := by
  obtain ⟨s1, N, a1, b1, c1, c2, c3, c4⟩ := f234_eq (aa := 32) (.inl rfl) (M := M) (by omega) (X := X) (by omega) (by omega) h6.1
  obtain ⟨s2, H, a2, b2, d1, d2, d3, d4⟩ := f234_eq (aa := 36) (.inr (.inr rfl)) (M := 2 * M + 1) (by omega) (X := X - 1) (by omega) (by omega) (D6.fr c4 h6.2.2 rfl rfl (by decide) (by decide))
  have h34 : D6 34 s2 := D6.fr d4 (D6.fr c4 h6.2.1 rfl rfl (by decide) (by decide)) rfl rfl (by decide) (by decide)
  have em : zl 2 * zl (M : Int) + zl 1 = zl ((2 * M + 1 : Nat) : Int) := by
    rw [zl_mul, zl_add]
    exact congrArg zl (by omega)
  have ex1 : zi X - zi 1 = zi (X - 1) := zi_sub _ _
  have ex2 : zi X - zi 2 = zi (X - 2) := zi_sub _ _
  have low : ∃ s3 L a3 b3, f171 (zl M) (zi X) (zi nr) s = f171_68 (zl M) (zi nr) s3 ∧ DEC s3 34 L a3 b3 ∧ ((nr = 0 ∧ SV L (2 * M - 1) (X - 1)) ∨ (nr = 1 ∧ SV L (4 * M - 1) (X - 2))) ∧ fr [34, 35] [] s2 s3 := by
    unfold f171
    rw [c1, zb0_mk, em, ex1, d1, zb0_mk]
    rcases hnr with rfl | ⟨rfl, h⟩
    · obtain ⟨s3, L, a3, b3, g1, g2, g3, g4⟩ := f234_eq (aa := 34) (.inr (.inl rfl)) (M := 2 * M - 1) (by omega) (X := X - 1) (by omega) (by omega) h34
      have e : zl 2 * zl (M : Int) - zl 1 = zl ((2 * M - 1 : Nat) : Int) := by
        rw [zl_mul, zl_sub]
        exact congrArg zl (by omega)
      refine ⟨s3, L, a3, b3, ?_, g2, .inl ⟨rfl, g3⟩, g4⟩
      rw [if_pos (show zi ((0 : Nat) : Int) = zi 0 from rfl), e, g1]
      rfl
    · obtain ⟨s3, L, a3, b3, g1, g2, g3, g4⟩ := f234_eq (aa := 34) (.inr (.inl rfl)) (M := 4 * M - 1) (by omega) (X := X - 2) (by omega) (by omega) h34
      have e : zl 4 * zl (M : Int) - zl 1 = zl ((4 * M - 1 : Nat) : Int) := by
        rw [zl_mul, zl_sub]
        exact congrArg zl (by omega)
      refine ⟨s3, L, a3, b3, ?_, g2, .inr ⟨rfl, g3⟩, g4⟩
      rw [if_neg (show ¬ zi ((1 : Nat) : Int) = zi 0 from zne (by omega)), e, ex2, g1]
      rfl
  obtain ⟨s3, L, a3, b3, g1, g2, g3, g4⟩ := low
  have hE := EDG_m hw c3 d3 g3 hM hM2 hnr
  have ho := hE.ord
  have htri : TRI s3 N L H := ⟨⟨a1, b1, (c2.mv d4 (.inl rfl) rfl rfl).mv g4 (.inl rfl) rfl rfl⟩, ⟨a3, b3, g2⟩, ⟨a2, b2, d2.mv g4 (.inr (.inr rfl)) rfl rfl⟩⟩
  obtain ⟨⟨a, b, hD⟩, _, _⟩ := htri
  have htri : TRI s3 N L H := ⟨⟨a1, b1, (c2.mv d4 (.inl rfl) rfl rfl).mv g4 (.inl rfl) rfl rfl⟩, ⟨a3, b3, g2⟩, ⟨a2, b2, d2.mv g4 (.inr (.inr rfl)) rfl rfl⟩⟩
  obtain ⟨T, t1, t2, t3⟩ := f237_eq hD (by omega)
  have hV := VB_of c3 hM2 (by omega) hX2
  have hr := top_rng hV t1
  have f3 : fr [32, 33, 34, 35, 36, 37, 38] [27, 28] s s3 := ((c4.up rfl rfl).trans (d4.up rfl rfl)).trans (g4.up rfl rfl)
  have eand : zl (M : Int) &&& zl 1 = zl ((M % 2 : Nat) : Int) := zl_and (a := (M : Int)) (k := 1) (by decide)
  obtain ⟨e, he, hev, hb⟩ : ∃ e : Int, (e = 0 ∨ e = 1) ∧ (e = 1 ↔ M % 2 = 0) ∧ f171_68 (zl M) (zi nr) s3 = f171_86 zF (zi e) (zi 2) s3 := by
    unfold f171_68
    rw [eand]
    by_cases c : M % 2 = 0
    · exact ⟨1, .inr rfl, by omega, by rw [c, if_neg zl00]⟩
    · exact ⟨0, .inl rfl, by omega, by rw [if_pos (zlne (by omega))]⟩
  obtain ⟨s4, k, R, T', m1, m2, m3, m4, m5⟩ := f171_loop hE t1 (by omega) (by omega) ho.1 ho.2.1 ho.2.2 he 15 2 zF s3 rfl (by omega) (by unfold zF; omega) htri (fun m m1 m2 => by omega)
  have hp : (e = 1) = (M % 2 = 0) := propext hev
  rw [hp] at m2
  have h64 := htri.mv m5 rfl rfl rfl rfl rfl rfl
  obtain ⟨⟨_, _, q1⟩, ⟨_, _, q2⟩, ⟨_, _, q3⟩⟩ := h64
  refine ⟨s4, N, L, H, T, k, R, T', ?_, hE, t1, hr.1, hr.2, m2, m3, m4, ⟨q1.D6, q2.D6, q3.D6⟩, f3.trans (m5.up rfl rfl)⟩
  rw [g1, hb]
  exact m1
/-! the text -/
/-- a rounded number whose text is being made -/
def RT (s : zS) (R : Nat) (q T : Int) : Prop := RD s R q T ∧ -1000 ≤ q ∧ T ≤ 1000 ∧ T - q < 100
theorem RT.mv {s s' : zS} {R : Nat} {q T : Int} (h : RT s R q T) (hf : fr [39] [30, 31] s s') : RT s' R q T := ⟨h.1.mv hf rfl rfl rfl rfl, h.2⟩
theorem RT.dig {s : zS} {R : Nat} {q T : Int} (h : RT s R q T) {p : Int} (h1 : -5000 ≤ p) (h2 : p ≤ 5000) : f165 (zi p) s = some (zi (rdg R q p : Nat), s) := by
  obtain ⟨h3, h4, h5, h6⟩ := h
  exact h3.dig (by omega) (by omega) (by omega) (by omega) (by omega)
theorem RT.put {s : zS} {R : Nat} {q T : Int} (h : RT s R q T) {l : List Int} {w : Int} (hM : MD s l w) (hl : l.length < 12000) (p : Int) : ∃ s', f175 (zi 48 + zi (rdg R q p : Nat)) s = some s' ∧ MD s' (l ++ [(48 + (rdg R q p : Nat) : Int)]) (w + 1) ∧ RT s' R q T ∧ fr [39] [30, 31] s s' := by
  have hr := rdg_lt R q p
  obtain ⟨s1, a1, a2, a3⟩ := hM.add hl (b := 48 + (rdg R q p : Nat)) (by omega) (by omega)
  exact ⟨s1, by rw [zi_add]; exact a1, a2, h.mv a3, a3⟩
theorem f179_290_loop {R : Nat} {q T lo : Int} (hlo : -1000 ≤ lo) (hlo2 : lo ≤ 1000) : ∀ (d n : Nat) (p : Int) (s : zS) (l : List Int) (w : Int), (d : Int) = p + 1 - min lo (-1) → d < n → p ≤ 1000 → RT s R q T → MD s l w → l.length + d ≤ 11000 →
    ∃ s', f179_290 n (zi lo) (zi p) s = some s' ∧ MD s' (l ++ dl R q p d) (w + d) ∧ fr [39] [30, 31] s s' := by
  intro d
  induction d with
  | zero =>
    intro n p s l w hd hn hp hR hM hl
    obtain ⟨n, rfl⟩ : ∃ k, n = k + 1 := ⟨n - 1, by omega⟩
    refine ⟨s, ?_, ?_, fr.refl⟩
    · show b179_290 (f179_290 n) _ _ _ = _
      unfold b179_290
      rw [r265_min (by omega) (by omega) (by omega) (by omega), if_pos (zlt (by omega))]
    · have e : w + ((0 : Nat) : Int) = w := by omega
      rw [e]
      show MD s (l ++ []) w
      rw [List.append_nil]
      exact hM
  | succ d ih =>
    intro n p s l w hd hn hp hR hM hl
    obtain ⟨n, rfl⟩ : ∃ k, n = k + 1 := ⟨n - 1, by omega⟩
    obtain ⟨s1, a1, a2, a3, a4⟩ := hR.put hM (by omega) p
    obtain ⟨s2, b1, b2, b3⟩ := ih n (p - 1) s1 _ (w + 1) (by omega) (by omega) (by omega) a3 a2 (by rw [List.length_append]; show l.length + 1 + d ≤ 11000; omega)
    refine ⟨s2, ?_, ?_, a4.trans b3⟩
    · show b179_290 (f179_290 n) _ _ _ = _
      unfold b179_290
      have e : zi p + zi (-1) = zi (p - 1) := by rw [zi_add]; exact congrArg zi (by omega)
      rw [r265_min (by omega) (by omega) (by omega) (by omega), if_neg (znlt (by omega)), hR.dig (by omega) (by omega), zb1_mk, a1, zb0_mk, e]
      exact b1
    · have e : w + 1 + (d : Int) = w + ((d + 1 : Nat) : Int) := by omega
      rw [e, List.append_assoc] at b2
      exact b2
theorem f179_257_loop {R : Nat} {q T lo : Int} (hlo : -1000 ≤ lo) (hlo2 : lo ≤ 1000) : ∀ (d n : Nat) (s : zS) (l : List Int) (w : Int), d < n → d ≤ 1000 → RT s R q T → MD s l w → l.length + d ≤ 5000 →
    ∃ s', f179_257 n (zi lo) (zi ((d : Int) - 1)) s = some s' ∧ MD s' (l ++ (dl R q ((d : Int) - 1) d ++ 46 :: dl R q (-1) (max (-lo) 1).toNat)) (w + d + 1 + (max (-lo) 1).toNat) ∧ fr [39] [30, 31] s s' := by
  intro d
  induction d with
  | zero =>
    intro n s l w hn hd hR hM hl
    obtain ⟨n, rfl⟩ : ∃ k, n = k + 1 := ⟨n - 1, by omega⟩
    obtain ⟨s1, a1, a2, a3⟩ := hM.add (by omega) (b := 46) (by omega) (by omega)
    obtain ⟨s2, b1, b2, b3⟩ := f179_290_loop (R := R) (q := q) (T := T) hlo hlo2 (max (-lo) 1).toNat zF (-1) s1 _ (w + 1) (by omega) (by unfold zF; omega) (by omega) (hR.mv a3) a2 (by rw [List.length_append]; show l.length + 1 + _ ≤ 11000; omega)
    refine ⟨s2, ?_, ?_, a3.trans b3⟩
    · show b179_257 (f179_257 n) _ _ _ = _
      unfold b179_257
      rw [if_pos (zlt (by omega)), a1, zb0_mk]
      exact b1
    · have e : w + ((0 : Nat) : Int) + 1 + ((max (-lo) 1).toNat : Int) = w + 1 + ((max (-lo) 1).toNat : Int) := by omega
      rw [e]
      rw [List.append_assoc] at b2
      exact b2
  | succ d ih =>
    intro n s l w hn hd hR hM hl
    obtain ⟨n, rfl⟩ : ∃ k, n = k + 1 := ⟨n - 1, by omega⟩
    have ed : ((d + 1 : Nat) : Int) - 1 = (d : Int) := by omega
    rw [ed]
    obtain ⟨s1, a1, a2, a3, a4⟩ := hR.put hM (by omega) d
    by_cases hlen : l.length + 1 + d ≤ 5000
    · obtain ⟨s2, b1, b2, b3⟩ := ih n s1 _ (w + 1) (by omega) (by omega) a3 a2 (by rw [List.length_append]; exact hlen)
      refine ⟨s2, ?_, ?_, a4.trans b3⟩
      · show b179_257 (f179_257 n) _ _ _ = _
        unfold b179_257
        have e : zi (d : Int) + zi (-1) = zi ((d : Int) - 1) := by rw [zi_add]; exact congrArg zi (by omega)
        rw [if_neg (znlt (by omega)), hR.dig (by omega) (by omega), zb1_mk, a1, zb0_mk, e]
        exact b1
      · have e : w + 1 + (d : Int) + 1 + ((max (-lo) 1).toNat : Int) = w + ((d + 1 : Nat) : Int) + 1 + ((max (-lo) 1).toNat : Int) := by omega
        rw [e, List.append_assoc] at b2
        exact b2
    · exact absurd hlen (by omega)
theorem f179_350_loop {R : Nat} {q T lo : Int} (hlo : -1000 ≤ lo) (hlo2 : lo ≤ 1000) (hT : -1000 ≤ T) : ∀ (d n : Nat) (p : Int) (s : zS) (l : List Int) (w : Int), (d : Int) = p + 1 - min lo (T - 1) → d < n → p ≤ 1000 → RT s R q T → MD s l w → l.length + d ≤ 5000 →
    ∃ s', f179_350 n (zi lo) (zi p) s = some s' ∧ MD s' (l ++ (dl R q p d ++ 69 :: sgv T)) (w + d + 1 + (sgv T).length) ∧ fr [39] [30, 31] s s' := by
  intro d
  induction d with
  | zero =>
    intro n p s l w hd hn hp hR hM hl
    obtain ⟨n, rfl⟩ : ∃ k, n = k + 1 := ⟨n - 1, by omega⟩
    have hT2 := hR.2.2.1
    have e27 : s.1 24 27 = zi T := hR.1.1
    obtain ⟨s1, a1, a2, a3⟩ := hM.add (by omega) (b := 69) (by omega) (by omega)
    have e27' : s1.1 24 27 = zi T := by rw [a3.1 24 27 rfl (fun _ => rfl)]; exact e27
    have tail : ∃ s', (if s1.1 24 27 ≥ zi 0 then f179_404 s1 else zb0 (f175 (zi 45) s1) (fun s2 => f179_404 s2)) = some s' ∧ MD s' (l ++ [69] ++ sgv T) (w + 1 + (sgv T).length) ∧ fr [39] [30, 31] s1 s' := by
      rw [e27']
      unfold sgv
      by_cases c : T < 0
      · obtain ⟨s2, b1, b2, b3⟩ := a2.add (by rw [List.length_append]; show l.length + 1 < 12000; omega) (b := 45) (by omega) (by omega)
        obtain ⟨s3, c1, c2, c3⟩ := b2.num (N := T.natAbs) (a := 1) (by omega) (by omega) (by omega) (by rw [List.length_append, List.length_append]; show l.length + 1 + 1 ≤ 11000; omega)
        refine ⟨s3, ?_, ?_, b3.trans c3⟩
        · have e27'' : s2.1 24 27 = zi T := by rw [b3.1 24 27 rfl (fun _ => rfl)]; exact e27'
          have en : zI2L (-zi T) = zl ((T.natAbs : Nat) : Int) := by
            rw [zi_neg, zI2L_zi (by omega) (by omega)]
            exact congrArg zl (by omega)
          rw [if_neg (znge (by omega)), b1, zb0_mk]
          unfold f179_404 f179_426
          rw [e27'', if_neg (znge (by omega)), en]
          have c1' : f177 (zl ((T.natAbs : Nat) : Int)) (zi 1) s2 = some s3 := c1
          rw [c1']
          rfl
        · rw [if_pos c]
          have e : w + 1 + 1 + ((kk T.natAbs 1 : Nat) : Int) = w + 1 + (([45] ++ ds T.natAbs (kk T.natAbs 1)).length : Nat) := by
            rw [List.length_append, ds_len]
            show w + 1 + 1 + _ = w + 1 + ((1 + kk T.natAbs 1 : Nat) : Int)
            omega
          rw [e, List.append_assoc] at c2
          exact c2
      · obtain ⟨s3, c1, c2, c3⟩ := a2.num (N := T.natAbs) (a := 1) (by omega) (by omega) (by omega) (by rw [List.length_append]; show l.length + 1 ≤ 11000; omega)
        refine ⟨s3, ?_, ?_, c3⟩
        · have en : zI2L (zi T) = zl ((T.natAbs : Nat) : Int) := by
            rw [zI2L_zi (by omega) (by omega)]
            exact congrArg zl (by omega)
          rw [if_pos (zge (by omega))]
          unfold f179_404 f179_426
          rw [e27', if_pos (zge (by omega)), en]
          have c1' : f177 (zl ((T.natAbs : Nat) : Int)) (zi 1) s1 = some s3 := c1
          rw [c1']
          rfl
        · rw [if_neg c, List.nil_append, ds_len]
          exact c2
    obtain ⟨s3, c1, c2, c3⟩ := tail
    refine ⟨s3, ?_, ?_, a3.trans c3⟩
    · show b179_350 (f179_350 n) _ _ _ = _
      unfold b179_350
      rw [e27, zi_sub, r265_min (by omega) (by omega) (by omega) (by omega), if_pos (zlt (by omega)), a1, zb0_mk]
      exact c1
    · have e : w + ((0 : Nat) : Int) + 1 + ((sgv T).length : Int) = w + 1 + ((sgv T).length : Int) := by omega
      rw [e]
      rw [List.append_assoc] at c2
      exact c2
  | succ d ih =>
    intro n p s l w hd hn hp hR hM hl
    obtain ⟨n, rfl⟩ : ∃ k, n = k + 1 := ⟨n - 1, by omega⟩
    have hT2 := hR.2.2.1
    have e27 : s.1 24 27 = zi T := hR.1.1
    obtain ⟨s1, a1, a2, a3, a4⟩ := hR.put hM (by omega) p
    obtain ⟨s2, b1, b2, b3⟩ := ih n (p - 1) s1 _ (w + 1) (by omega) (by omega) (by omega) a3 a2 (by rw [List.length_append]; show l.length + 1 + d ≤ 5000; omega)
    refine ⟨s2, ?_, ?_, a4.trans b3⟩
    · show b179_350 (f179_350 n) _ _ _ = _
      unfold b179_350
      have e : zi p + zi (-1) = zi (p - 1) := by rw [zi_add]; exact congrArg zi (by omega)
      rw [e27, zi_sub, r265_min (by omega) (by omega) (by omega) (by omega), if_neg (znlt (by omega)), hR.dig (by omega) (by omega), zb1_mk, a1, zb0_mk, e]
      exact b1
    · have e : w + 1 + (d : Int) + 1 + ((sgv T).length : Int) = w + ((d + 1 : Nat) : Int) + 1 + ((sgv T).length : Int) := by omega
      rw [e, List.append_assoc] at b2
      exact b2
theorem f179_229_eq {R : Nat} {q T lo : Int} {s : zS} (hR : RT s R q T) (hT : -900 ≤ T) (hlo : lo ≤ T) (hlo2 : T - 20 ≤ lo) {l : List Int} {w : Int} (hM : MD s l w) (hl : l.length ≤ 10) : ∃ s', f179_229 (zi lo) s = some s' ∧ MD s' (l ++ shX R q T lo) (w + (shX R q T lo).length) ∧ fr [39] [30, 31] s s' := by
  have hT2 := hR.2.2.1
  have e27 : s.1 24 27 = zi T := hR.1.1
  unfold f179_229 shX
  rw [e27]
  by_cases c : -3 ≤ T ∧ T < 7
  · rw [if_pos c, if_neg (znlt (by omega)), if_neg (znge (by omega)), r264_max (by omega) (by omega) (by omega) (by omega)]
    obtain ⟨d, hd⟩ : ∃ d : Nat, (d : Int) = max T 0 + 1 := ⟨(max T 0 + 1).toNat, by omega⟩
    obtain ⟨s1, a1, a2, a3⟩ := f179_257_loop (R := R) (q := q) (T := T) (lo := lo) (by omega) (by omega) d zF s l w (by unfold zF; omega) (by omega) hR hM (by omega)
    have e1 : (d : Int) - 1 = max T 0 := by omega
    have e2 : d = (max T 0 + 1).toNat := by omega
    rw [e1] at a1 a2
    refine ⟨s1, a1, ?_, a3⟩
    have e3 : w + (d : Int) + 1 + ((max (-lo) 1).toNat : Int) = w + ((whl R q T ++ 46 :: dl R q (-1) (max (-lo) 1).toNat).length : Nat) := by
      unfold whl
      rw [List.length_append, List.length_cons, dl_len, dl_len]
      omega
    rw [e3, e2] at a2
    exact a2
  · rw [if_neg c]
    have h321 : ∃ s', f179_321 (zi lo) s = some s' ∧ MD s' (l ++ ((48 + (rdg R q T : Nat) : Int) :: 46 :: (dl R q (T - 1) (max (T - lo) 1).toNat ++ 69 :: sgv T))) (w + ((48 + (rdg R q T : Nat) : Int) :: 46 :: (dl R q (T - 1) (max (T - lo) 1).toNat ++ 69 :: sgv T)).length) ∧ fr [39] [30, 31] s s' := by
      obtain ⟨s1, a1, a2, a3, a4⟩ := hR.put hM (by omega) T
      obtain ⟨s2, b1, b2, b3⟩ := a2.add (by rw [List.length_append]; show l.length + 1 < 12000; omega) (b := 46) (by omega) (by omega)
      have hR2 := a3.mv b3
      obtain ⟨s3, c1, c2, c3⟩ := f179_350_loop (R := R) (q := q) (T := T) (lo := lo) (by omega) (by omega) (by omega) (max (T - lo) 1).toNat zF (T - 1) s2 _ (w + 1 + 1) (by omega) (by unfold zF; omega) (by omega) hR2 b2 (by rw [List.length_append, List.length_append]; show l.length + 1 + 1 + _ ≤ 5000; omega)
      refine ⟨s3, ?_, ?_, (a4.trans b3).trans c3⟩
      · unfold f179_321
        have e27' : s2.1 24 27 = zi T := hR2.1.1
        rw [e27, hR.dig (by omega) (by omega), zb1_mk, a1, zb0_mk, b1, zb0_mk, e27', zi_sub]
        exact c1
      · have e : w + 1 + 1 + ((max (T - lo) 1).toNat : Int) + 1 + ((sgv T).length : Int) = w + (((48 + (rdg R q T : Nat) : Int) :: 46 :: (dl R q (T - 1) (max (T - lo) 1).toNat ++ 69 :: sgv T)).length : Nat) := by
          rw [List.length_cons, List.length_cons, List.length_append, List.length_cons, dl_len]
          omega
        rw [e, List.append_assoc, List.append_assoc] at c2
        exact c2
    by_cases c1 : T < -3
    · rw [if_pos (zlt (by omega))]
      exact h321
    · rw [if_neg (znlt (by omega)), if_pos (zge (by omega))]
      exact h321
theorem f179_205_loop {R : Nat} {q T lo : Int} {s : zS} (hR : RT s R q T) (hL : LOW R q T lo) : ∀ (d n : Nat) (p : Int), (d : Int) = lo - p → d < n → q ≤ p → f179_205 n (zi p) s = f179_229 (zi lo) s := by
  have e27 : s.1 24 27 = zi T := hR.1.1
  obtain ⟨l1, l2, l3, l4⟩ := hL
  have h1 := hR.2.1
  have h2 := hR.2.2.1
  have hlt := rdg_lt R q lo
  intro d
  induction d with
  | zero =>
    intro n p hd hn hq
    obtain ⟨n, rfl⟩ : ∃ k, n = k + 1 := ⟨n - 1, by omega⟩
    have hp : p = lo := by omega
    subst hp
    show b179_205 (f179_205 n) _ _ = _
    unfold b179_205
    rw [e27]
    by_cases c : T ≤ p
    · rw [if_pos (zge (by omega))]
    · rw [if_neg (znge (by omega)), hR.dig (by omega) (by omega), zb1_mk, if_pos (zne (by omega))]
  | succ d ih =>
    intro n p hd hn hq
    obtain ⟨n, rfl⟩ : ∃ k, n = k + 1 := ⟨n - 1, by omega⟩
    show b179_205 (f179_205 n) _ _ = _
    unfold b179_205
    rw [e27, if_neg (znge (by omega)), hR.dig (by omega) (by omega), zb1_mk, l1 p (by omega), if_neg zi00, zi_add]
    exact ih n (p + 1) (by omega) (by omega) (by omega)
theorem f179_192_eq {R : Nat} {q T lo : Int} {s : zS} (hR : RT s R q T) (hT : -900 ≤ T) (hL : LOW R q T lo) (hlo2 : T - 20 ≤ lo) {l : List Int} {w : Int} (hM : MD s l w) (hl : l.length ≤ 10) : ∃ s', f179_192 s = some s' ∧ MD s' (l ++ shX R q T lo) (w + (shX R q T lo).length) ∧ fr [39] [30, 31] s s' := by
  obtain ⟨s', a1, a2, a3⟩ := f179_229_eq hR hT hL.2.2.1 hlo2 hM hl
  refine ⟨s', ?_, a2, a3⟩
  unfold f179_192
  have e27 : s.1 24 27 = zi T := hR.1.1
  have e28 : s.1 24 28 = zi (T - q + 1) := hR.1.2.1
  have e : T - (T - q + 1) + 1 = q := by omega
  have h1 := hL.2.2.1
  have h2 := hL.2.2.2
  have h3 := hR.2.2.2
  rw [e27, e28, zi_sub, zi_add, e, f179_205_loop hR hL (lo - q).toNat zF q (by omega) (by unfold zF; omega) (Int.le_refl _)]
  exact a1
