/-! the shortest decimal: how the reference finds it -/
theorem f172_25_loop {N a b : Nat} {q T : Int} {x1 : Int32} (hq : -3780 ≤ q) (hT : T ≤ 4000) (hl : T - q < 2300) (hqT : q ≤ T) (hN : N < 10 ^ (3781 + T).toNat) : ∀ (d i n : Nat) (s : zS), (d : Int) + i = T - q + 1 → d < n → DEC s 32 N a b → s.1 24 27 = zi T → s.1 24 28 = zi (T - q + 1) → (∀ k : Nat, k < i → s.1 38 k = zi (dgN N (T - k) : Nat)) →
    ∃ s', f172_25 n x1 (zi i) s = some s' ∧ RD s' (N / 10 ^ (3780 + q).toNat) q T ∧ fr [38] [27, 28] s s' := by
  intro d
  induction d with
  | zero =>
    intro i n s hd hn hD h27 h28 hz
    obtain ⟨n, rfl⟩ : ∃ k, n = k + 1 := ⟨n - 1, by omega⟩
    have hRD : RD s (N / 10 ^ (3780 + q).toNat) q T := by
      refine ⟨h27, h28, hqT, fun k hk => ?_, ?_⟩
      · rw [hz k (by omega), rdg_cut hq (by omega)]
      · refine Nat.div_lt_of_lt_mul ?_
        rw [← Nat.pow_add]
        have e1 : (3780 + q).toNat + (T - q + 1).toNat = (3781 + T).toNat := by omega
        rw [e1]
        exact hN
    refine ⟨s, ?_, hRD, fr.refl⟩
    show b172_25 (f172_25 n) _ _ _ = _
    unfold b172_25
    rw [h28, if_pos (zge (by omega))]
  | succ d ih =>
    intro i n s hd hn hD h27 h28 hz
    obtain ⟨n, rfl⟩ : ∃ k, n = k + 1 := ⟨n - 1, by omega⟩
    have hdl := dgN_lt N (T - i)
    obtain ⟨s', a1, a2, a5⟩ := ih (i + 1) n (setB s 38 i (zi (dgN N (T - i) : Nat))) (by omega) (by omega) (hD.mv (A := [38]) (B := []) (fr.refl.sB rfl) (.inl rfl) rfl rfl) h27 h28 (fun k hk => by
      show upd (s.1 38) i _ k = _
      by_cases e : k = i
      · rw [e, upd_eq]
      · rw [upd_ne e]
        exact hz k (by omega))
    refine ⟨s', ?_, a2, (fr.refl.sB rfl).trans a5⟩
    show b172_25 (f172_25 n) _ _ _ = _
    unfold b172_25
    rw [h28, if_neg (znge (by omega)), h27, zi_sub, f235_eq hD (by omega) (by omega), zb1_mk, if_pos (zi_ix (by omega) (by omega) (by omega)), zi_toNat (by omega), zI2B_2, zI2B_id (by omega) (by omega), zi_add]
    exact a1
theorem top_ne {N : Nat} {T : Int} (h : topN N T) : N ≠ 0 := by
  have := h.2.1
  have := p_pos (3780 + T).toNat
  omega
theorem f172_eq {s : zS} {N a b : Nat} (hD : DEC s 32 N a b) {T : Int} (hT : topN N T) {q : Int} (hq : -3780 ≤ q) (hqT : q ≤ T) (hl : T - q < 2300) : ∃ s', f172 (zi q) s = some s' ∧ RD s' (N / 10 ^ (3780 + q).toNat) q T ∧ fr [38] [27, 28] s s' := by
  obtain ⟨t, t1, t2, t3⟩ := f237_eq hD (top_ne hT)
  obtain rfl := topN_uniq t1 hT
  obtain ⟨L, hL⟩ : ∃ L : Nat, t - q + 1 = L := ⟨(t - q + 1).toNat, by omega⟩
  obtain ⟨s', a1, a2, a5⟩ := f172_25_loop (a := a) (b := b) (q := q) (T := t) (x1 := zi q) hq (by omega) hl hqT hT.2.2 L 0 zF (setI (setI s 24 27 (zi t)) 24 28 (zi (t - q + 1))) (by omega) (by unfold zF; omega) hD rfl rfl (fun k hk => by omega)
  refine ⟨s', ?_, a2, ((fr.refl.sI (.inr ⟨rfl, rfl⟩)).sI (.inr ⟨rfl, rfl⟩)).trans a5⟩
  unfold f172
  rw [t2, zb1_mk, zi_sub, zi_add]
  exact a1
theorem DEC.low {s : zS} {aa N a b : Nat} (h : DEC s aa N a b) : ∃ lo : Int, r238 aa s = zi lo ∧ -3780 ≤ lo ∧ lo ≤ 0 ∧ 10 ^ (3780 + lo).toNat ∣ N := by
  obtain ⟨h1, h2, h3, h4, h5, h6, h7⟩ := h
  refine ⟨9 * (45 - max (b : Int) 45), ?_, by omega, by omega, ?_⟩
  · unfold r238
    rw [h2, r264_max (by omega) (by omega) (by omega) (by omega), zi_sub, zi_mul]
  · have e : (3780 + 9 * (45 - max (b : Int) 45)).toNat = 9 * (465 - max b 45) := by omega
    rw [e]
    exact Nat.dvd_trans (WW_dvd (a := b) (b := max b 45) (by omega)) h7
theorem dg_step (N k : Nat) : N % 10 ^ (k + 1) = N % 10 ^ k + 10 ^ k * (N / 10 ^ k % 10) := by
  rw [Nat.pow_succ, Nat.mod_mul]
theorem f239_loop {aa N a b : Nat} {s : zS} (h : DEC s aa N a b) {x1 : Int32} {lo : Int} (hlo : r238 aa s = zi lo) (h1 : -3780 ≤ lo) (h2 : lo ≤ 0) (hd : 10 ^ (3780 + lo).toNat ∣ N) : ∀ (d n : Nat) (p : Int), d = (p + 1 - lo).toNat → d < n → -3781 ≤ p → p ≤ 1000 → f239_4 aa n x1 (zi p) s = some (zi (if N % 10 ^ (3781 + p).toNat = 0 then 0 else 1), s) := by
  intro d
  induction d with
  | zero =>
    intro n p hp hn p1 p2
    obtain ⟨n, rfl⟩ : ∃ k, n = k + 1 := ⟨n - 1, by omega⟩
    have hz : N % 10 ^ (3781 + p).toNat = 0 := Nat.mod_eq_zero_of_dvd (Nat.dvd_trans (Nat.pow_dvd_pow 10 (by omega)) hd)
    rw [if_pos hz]
    show b239_4 aa (f239_4 aa n) _ _ _ = _
    unfold b239_4
    rw [hlo, if_pos (zlt (by omega))]
  | succ d ih =>
    intro n p hp hn p1 p2
    obtain ⟨n, rfl⟩ : ∃ k, n = k + 1 := ⟨n - 1, by omega⟩
    have hdl := dgN_lt N p
    show b239_4 aa (f239_4 aa n) _ _ _ = _
    unfold b239_4
    rw [hlo, if_neg (znlt (by omega)), f235_eq h (by omega) (by omega), zb1_mk]
    have ek : (3781 + p).toNat = (3780 + p).toNat + 1 := by omega
    have ed : dgN N p = N / 10 ^ (3780 + p).toNat % 10 := by
      unfold dgN
      rw [if_neg (by omega)]
    have est := dg_step N (3780 + p).toNat
    by_cases c : dgN N p = 0
    · rw [if_pos (by rw [c]; rfl), zi_add, ih n (p + -1) (by omega) (by omega) (by omega) (by omega)]
      have e2 : (3781 + (p + -1)).toNat = (3780 + p).toNat := by omega
      rw [← ed, c, Nat.mul_zero] at est
      have est' : N % 10 ^ ((3780 + p).toNat + 1) = N % 10 ^ (3780 + p).toNat := est
      rw [e2, ek, est']
    · rw [if_neg (zne (by omega)), ek, if_neg]
      rw [est, ← ed]
      have hp := p_pos (3780 + p).toNat
      have : 0 < 10 ^ (3780 + p).toNat * dgN N p := Nat.mul_pos hp (by omega)
      omega
theorem f239_eq {aa N a b : Nat} {s : zS} (h : DEC s aa N a b) {q : Int} (h1 : -3780 ≤ q) (h2 : q ≤ 1000) : f239 aa (zi q) s = some (zi (if N % 10 ^ (3780 + q).toNat = 0 then 0 else 1), s) := by
  obtain ⟨lo, l1, l2, l3, l4⟩ := h.low
  have e := f239_loop h (x1 := zi q) l1 l2 l3 l4 (q - 1 + 1 - lo).toNat zF (q - 1) rfl (by unfold zF; omega) (by omega) (by omega)
  have e2 : (3781 + (q - 1)).toNat = (3780 + q).toNat := by omega
  rw [e2] at e
  unfold f239
  rw [zi_sub]
  exact e
/-! compare -/
def CMP (v : Int) (A L : Nat) : Prop := -10 < v ∧ v < 10 ∧ (v < 0 ↔ A < L) ∧ (0 < v ↔ L < A)
theorem div_lt_lt {A L P : Nat} (h : A / P < L / P) : A < L := by
  apply Classical.byContradiction
  intro c
  have := Nat.div_le_div_right (c := P) (show L ≤ A by omega)
  omega
theorem f174_loop {xx L a b R : Nat} {q T : Int} {s : zS} (hx : DEC s xx L a b) (hR : RD s R q T) (hq : -3780 ≤ q) (hT : T ≤ 1000) (hl : T - q < 2300) {lo : Int} (h1 : -3780 ≤ lo) (hlq : lo ≤ q) (hd : 10 ^ (3780 + lo).toNat ∣ L) : ∀ (d n : Nat) (p : Int), (d : Int) = p + 1 - lo → d < n → p ≤ 5000 → (R * 10 ^ (3780 + q).toNat) / 10 ^ (3781 + p).toNat = L / 10 ^ (3781 + p).toNat → ∃ v : Int, f174_45 xx n (zi p) (zi lo) s = some (zi v, s) ∧ CMP v (R * 10 ^ (3780 + q).toNat) L := by
  have hqT := hR.2.2.1
  have hA : 10 ^ (3780 + lo).toNat ∣ R * 10 ^ (3780 + q).toNat := Nat.dvd_trans (Nat.pow_dvd_pow 10 (show (3780 + lo).toNat ≤ (3780 + q).toNat by omega)) (Nat.dvd_mul_left _ _)
  have hdg : ∀ p, rdg R q p = dgN (R * 10 ^ (3780 + q).toNat) p := fun p => (dgN_units hq).symm
  generalize R * 10 ^ (3780 + q).toNat = A at *
  intro d
  induction d with
  | zero =>
    intro n p hp hn p2 he
    obtain ⟨n, rfl⟩ : ∃ k, n = k + 1 := ⟨n - 1, by omega⟩
    have ek : (3781 + p).toNat = (3780 + lo).toNat := by omega
    rw [ek] at he
    have e1 := Nat.div_mul_cancel hA
    have e2 := Nat.div_mul_cancel hd
    have e3 : A = L := by rw [← e1, ← e2, he]
    refine ⟨0, ?_, by omega, by omega, by omega, by omega⟩
    show b174_45 xx (f174_45 xx n) _ _ _ = _
    unfold b174_45
    rw [if_pos (zlt (by omega))]
  | succ d ih =>
    intro n p hp hn p2 he
    obtain ⟨n, rfl⟩ : ∃ k, n = k + 1 := ⟨n - 1, by omega⟩
    have hd1 := dgN_lt A p
    have hd2 := dgN_lt L p
    have ek : (3781 + p).toNat = (3780 + p).toNat + 1 := by omega
    have e1 : dgN A p = A / 10 ^ (3780 + p).toNat % 10 := by
      unfold dgN
      rw [if_neg (by omega)]
    have e2 : dgN L p = L / 10 ^ (3780 + p).toNat % 10 := by
      unfold dgN
      rw [if_neg (by omega)]
    have c1 := cutA_step A (3780 + p).toNat
    have c2 := cutA_step L (3780 + p).toNat
    rw [ek] at he
    rw [he, ← e1] at c1
    rw [← e2] at c2
    have ebody : f174_45 xx (n + 1) (zi p) (zi lo) s = if zi ((dgN A p : Int) - dgN L p) = zi 0 then f174_45 xx n (zi (p + -1)) (zi lo) s else some (zi ((dgN A p : Int) - dgN L p), s) := by
      show b174_45 xx (f174_45 xx n) _ _ _ = _
      unfold b174_45
      rw [if_neg (znlt (by omega)), hR.dig (by omega) (by omega) (by omega) (by omega) (by omega), zb1_mk, f235_eq hx (by omega) (by omega), zb1_mk, hdg p, zi_sub, zi_add]
    rw [ebody]
    by_cases c : dgN A p = dgN L p
    · have e3 : (3781 + (p + -1)).toNat = (3780 + p).toNat := by omega
      obtain ⟨v, v1, v2⟩ := ih n (p + -1) (by omega) (by omega) (by omega) (by rw [e3, c1, c2, c])
      refine ⟨v, ?_, v2⟩
      rw [if_pos (by rw [c]; exact zeq (by omega))]
      exact v1
    · refine ⟨(dgN A p : Int) - dgN L p, ?_, by omega, by omega, ?_, ?_⟩
      · rw [if_neg (zne (by omega))]
      · constructor
        · intro g
          exact div_lt_lt (P := 10 ^ (3780 + p).toNat) (by omega)
        · intro g
          have := Nat.div_le_div_right (c := 10 ^ (3780 + p).toNat) (Nat.le_of_lt g)
          omega
      · constructor
        · intro g
          exact div_lt_lt (P := 10 ^ (3780 + p).toNat) (by omega)
        · intro g
          have := Nat.div_le_div_right (c := 10 ^ (3780 + p).toNat) (Nat.le_of_lt g)
          omega
theorem f174_eq {xx L a b R : Nat} {q T : Int} {s : zS} (hx : DEC s xx L a b) (hL : L ≠ 0) (hR : RD s R q T) (hq : -3780 ≤ q) (hT : T ≤ 1000) (hl : T - q < 2300) : ∃ v : Int, f174 xx s = some (zi v, s) ∧ CMP v (R * 10 ^ (3780 + q).toNat) L := by
  obtain ⟨lo, l1, l2, l3, l4⟩ := hx.low
  obtain ⟨t, t1, t2, t3⟩ := f237_eq hx hL
  obtain ⟨r1, r2, r3, r4, r5⟩ := hR
  have hR : RD s R q T := ⟨r1, r2, r3, r4, r5⟩
  have ht := t1.1
  have hA0 : (R * 10 ^ (3780 + q).toNat) / 10 ^ (3781 + max T t).toNat = 0 := by
    refine Nat.div_eq_of_lt ?_
    have e : R * 10 ^ (3780 + q).toNat < 10 ^ (T - q + 1).toNat * 10 ^ (3780 + q).toNat := Nat.mul_lt_mul_of_pos_right r5 (p_pos _)
    rw [← Nat.pow_add] at e
    exact Nat.lt_of_lt_of_le e (Nat.pow_le_pow_right (by decide) (by omega))
  have hL0 : L / 10 ^ (3781 + max T t).toNat = 0 := Nat.div_eq_of_lt (Nat.lt_of_lt_of_le t1.2.2 (Nat.pow_le_pow_right (by decide) (by omega)))
  have hd : 10 ^ (3780 + min q lo).toNat ∣ L := Nat.dvd_trans (Nat.pow_dvd_pow 10 (by omega)) l4
  obtain ⟨v, v1, v2⟩ := f174_loop hx hR hq hT hl (lo := min q lo) (by omega) (by omega) hd (max T t + 1 - min q lo).toNat zF (max T t) (by omega) (by unfold zF; omega) (by omega) (by rw [hA0, hL0])
  refine ⟨v, ?_, v2⟩
  unfold f174 f174_22
  rw [f236_eq hx, zb1_mk, if_neg hL, if_pos (zeq (by omega)), t2, zb1_mk, r1, r2, l1, zi_sub, zi_add, r264_max (by omega) (by omega) (by omega) (by omega), r265_min (by omega) (by omega) (by omega) (by omega)]
  have e : T - (T - q + 1) + 1 = q := by omega
  rw [e]
  exact v1
/-- the three decimals -/
def TRI (s : zS) (N L H : Nat) : Prop := (∃ a b, DEC s 32 N a b) ∧ (∃ a b, DEC s 34 L a b) ∧ ∃ a b, DEC s 36 H a b
theorem TRI.mv {s s' : zS} {N L H : Nat} {A B : List Nat} (hf : fr A B s s') (h : TRI s N L H) (c1 : A.contains 32 = false) (c2 : A.contains 33 = false) (c3 : A.contains 34 = false) (c4 : A.contains 35 = false) (c5 : A.contains 36 = false) (c6 : A.contains 37 = false) : TRI s' N L H := by
  obtain ⟨⟨a1, b1, h1⟩, ⟨a2, b2, h2⟩, ⟨a3, b3, h3⟩⟩ := h
  exact ⟨⟨a1, b1, h1.mv hf (.inl rfl) c1 c2⟩, ⟨a2, b2, h2.mv hf (.inr (.inl rfl)) c3 c4⟩, ⟨a3, b3, h3.mv hf (.inr (.inr rfl)) c5 c6⟩⟩
theorem f173_eq {N L H R : Nat} {q T e : Int} {s : zS} (h : TRI s N L H) (hL : L ≠ 0) (hH : H ≠ 0) (hR : RD s R q T) (hq : -3780 ≤ q) (hT : T ≤ 1000) (hl : T - q < 2300) (he : e = 0 ∨ e = 1) {A : Nat} (hA : R * 10 ^ (3780 + q).toNat = A) : ∃ v : Int, f173 (zi e) s = some (zi v, s) ∧ (v = 0 ∨ v = 1) ∧ (v = 1 ↔ ((L < A ∨ (e = 1 ∧ L = A)) ∧ (A < H ∨ (e = 1 ∧ A = H)))) := by
  obtain ⟨_, ⟨a2, b2, h2⟩, ⟨a3, b3, h3⟩⟩ := h
  obtain ⟨v, v1, v2⟩ := f174_eq h2 hL hR hq hT hl
  obtain ⟨u, u1, u2⟩ := f174_eq h3 hH hR hq hT hl
  rw [hA] at v2 u2
  unfold CMP at v2 u2
  unfold f173
  rw [v1, zb1_mk, u1, zb1_mk]
  rcases he with rfl | rfl
  · rw [if_pos rfl]
    by_cases c1 : v ≤ 0
    · rw [if_pos (zle (by omega))]
      exact ⟨0, rfl, .inl rfl, by omega⟩
    · rw [if_neg (znle (by omega))]
      by_cases c2 : 0 ≤ u
      · rw [if_pos (zge (by omega))]
        exact ⟨0, rfl, .inl rfl, by omega⟩
      · rw [if_neg (znge (by omega))]
        exact ⟨1, rfl, .inr rfl, by omega⟩
  · rw [if_neg (zne (by omega))]
    by_cases c1 : v < 0
    · rw [if_pos (zlt (by omega))]
      exact ⟨0, rfl, .inl rfl, by omega⟩
    · rw [if_neg (znlt (by omega))]
      by_cases c2 : 0 < u
      · rw [if_pos (zgt (by omega))]
        exact ⟨0, rfl, .inl rfl, by omega⟩
      · rw [if_neg (zngt (by omega))]
        exact ⟨1, rfl, .inr rfl, by omega⟩
/-! nearer, by digits -/
theorem near_dig {N : Nat} {q : Int} (hq : -3779 ≤ q) {B : Nat} (hB : B = N / 10 ^ (3780 + q).toNat) : near N (10 ^ (3780 + q).toNat) = if dgN N (q - 1) < 5 then B else if dgN N (q - 1) = 5 ∧ N % 10 ^ (3780 + (q - 1)).toNat = 0 then (if dgN N q % 2 = 1 then B + 1 else B) else B + 1 := by
  have ek : (3780 + q).toNat = (3780 + (q - 1)).toNat + 1 := by omega
  have e1 : dgN N (q - 1) = N / 10 ^ (3780 + (q - 1)).toNat % 10 := by
    unfold dgN
    rw [if_neg (by omega)]
  have e2 : dgN N q = N / 10 ^ (3780 + q).toNat % 10 := by
    unfold dgN
    rw [if_neg (by omega)]
  have est := dg_step N (3780 + (q - 1)).toNat
  rw [← ek, ← e1] at est
  have hQ : 10 ^ (3780 + q).toNat = 10 ^ (3780 + (q - 1)).toNat * 10 := by rw [ek, Nat.pow_succ]
  have hr := Nat.mod_lt N (p_pos (3780 + (q - 1)).toNat)
  have hd := dgN_lt N (q - 1)
  unfold near
  rw [est, ← hB, e2, ← hB]
  clear hB e2 est e1
  rw [hQ]
  generalize 10 ^ (3780 + (q - 1)).toNat = P at *
  generalize N % P = r at *
  generalize dgN N (q - 1) = d at *
  by_cases c : d < 5
  · have := Nat.mul_le_mul_left P (show d ≤ 4 by omega)
    generalize P * d = y at *
    rw [if_pos (by omega), if_pos c]
  · have h5 := Nat.mul_le_mul_left P (show 5 ≤ d by omega)
    rw [if_neg c]
    by_cases c2 : d = 5 ∧ r = 0
    · obtain ⟨rfl, rfl⟩ := c2
      rw [if_neg (by omega), if_pos (show (5 : Nat) = 5 ∧ (0 : Nat) = 0 from ⟨rfl, rfl⟩)]
      by_cases c3 : B % 2 = 0
      · rw [if_pos ⟨by omega, c3⟩, if_neg (by omega)]
      · rw [if_neg (fun g => c3 g.2), if_pos (by omega)]
    · rw [if_neg c2]
      have h6 : P * d + r ≠ P * 5 := by
        by_cases c4 : d = 5
        · rw [c4]
          have : r ≠ 0 := fun g => c2 ⟨c4, g⟩
          omega
        · have := Nat.mul_le_mul_left P (show 6 ≤ d by omega)
          omega
      generalize P * d = y at *
      rw [if_neg (by omega), if_neg (fun g => h6 (by omega))]
/-! the choice -/
theorem f171_246_eq {N L H : Nat} {T q : Int} {s : zS} (h : TRI s N L H) (hT : topN N T) (hT2 : T ≤ 404) (hq : -3700 ≤ q) (hqT : q ≤ T) (hl : T - q < 100) {x12 : Int32} {y0 : Nat} (hy : y0 = 0 ∨ y0 = 1) : ∃ s' T', f171_246 (zi q) x12 (zi y0) s = some s' ∧ RD s' (N / 10 ^ (3780 + q).toNat + y0) q T' ∧ TopR (N / 10 ^ (3780 + q).toNat + y0) q T' ∧ fr [38] [27, 28] s s' := by
  obtain ⟨⟨a1, b1, h1⟩, _⟩ := h
  obtain ⟨s1, c1, c2, c3⟩ := f172_eq h1 hT (by omega) hqT (by omega)
  have hc := top_cut hT (q := q) (by omega) hqT
  unfold f171_246
  rw [c1, zb0_mk]
  rcases hy with rfl | rfl
  · rw [if_pos (show zi ((0 : Nat) : Int) = zi 0 from rfl)]
    refine ⟨s1, T, rfl, c2, ⟨hqT, hc.1, c2.2.2.2.2⟩, c3⟩
  · obtain ⟨s2, T', d1, d2, d3, d4⟩ := f164_eq c2 (by omega) (by omega) (by omega)
    rw [if_neg (show ¬ zi ((1 : Nat) : Int) = zi 0 from zne (by omega)), d1]
    refine ⟨s2, T', rfl, d2, ⟨d2.2.2.1, ?_, d2.2.2.2.2⟩, c3.trans d4⟩
    rcases d3 with rfl | ⟨rfl, d3⟩
    · omega
    · rw [d3]
      exact Nat.pow_le_pow_right (by decide) (by omega)
theorem f171_202_eq {N L H : Nat} {T q : Int} {s : zS} (h : TRI s N L H) (hT : topN N T) (hT2 : T ≤ 404) (hq : -3700 ≤ q) (hqT : q ≤ T) (hl : T - q < 100) (hne : N % 10 ^ (3780 + q).toNat ≠ 0) {e : Prop} {v9 v13 tie : Int} (h9 : v9 = 0 ∨ v9 = 1) (h13 : v13 = 0 ∨ v13 = 1) (k9 : v9 = 1 ↔ inB N L (10 ^ (3780 + q).toNat) e) (k13 : v13 = 1 ↔ inA N H (10 ^ (3780 + q).toNat) e) (htie : (tie = 1 ∧ dgN N (q - 1) = 5 ∧ N % 10 ^ (3780 + (q - 1)).toNat = 0) ∨ (tie = 0 ∧ ¬ (dgN N (q - 1) = 5 ∧ N % 10 ^ (3780 + (q - 1)).toNat = 0))) (hany : v9 = 1 ∨ v13 = 1) :
    ∃ s' R T', f171_202 (zi q) (zi (dgN N (q - 1) : Nat)) (zi v9) (zi v13) (zi tie) s = some s' ∧ PK N L H (10 ^ (3780 + q).toNat) e R ∧ RD s' R q T' ∧ TopR R q T' ∧ fr [38] [27, 28] s s' := by
  have hd := dgN_lt N (q - 1)
  obtain ⟨B, hB⟩ : ∃ B, B = N / 10 ^ (3780 + q).toNat := ⟨_, rfl⟩
  have nd := near_dig (N := N) (q := q) (by omega) hB
  have go : ∀ y0 : Nat, (y0 = 0 ∨ y0 = 1) → PK N L H (10 ^ (3780 + q).toNat) e (B + y0) → ∃ s' R T', f171_246 (zi q) (zi tie) (zi y0) s = some s' ∧ PK N L H (10 ^ (3780 + q).toNat) e R ∧ RD s' R q T' ∧ TopR R q T' ∧ fr [38] [27, 28] s s' := by
    intro y0 hy hp
    obtain ⟨s', T', g1, g2, g3, g4⟩ := f171_246_eq h hT hT2 hq hqT hl (x12 := zi tie) hy
    rw [← hB] at g2 g3
    exact ⟨s', _, T', g1, hp, g2, g3, g4⟩
  have go0 := go 0 (.inl rfl)
  have go1 := go 1 (.inr rfl)
  rw [Nat.add_zero] at go0
  unfold f171_202
  rcases h13 with rfl | rfl
  · have g9 : v9 = 1 := by omega
    rw [if_pos rfl]
    refine go0 (.inr ⟨hne, .inr (.inl ⟨k9.mp g9, fun g => ?_, hB⟩)⟩)
    have := k13.mpr g
    omega
  · rw [if_neg (zne (by omega))]
    rcases h9 with rfl | rfl
    · rw [if_pos rfl]
      refine go1 (.inr ⟨hne, .inr (.inr ⟨fun g => ?_, k13.mp rfl, by rw [hB]⟩)⟩)
      have := k9.mpr g
      omega
    · have hboth : ∀ R, R = near N (10 ^ (3780 + q).toNat) → PK N L H (10 ^ (3780 + q).toNat) e R := fun R hR => .inr ⟨hne, .inl ⟨k9.mp rfl, k13.mp rfl, hR⟩⟩
      rw [if_neg (zne (by omega))]
      rcases htie with ⟨rfl, t1, t2⟩ | ⟨rfl, t1⟩
      · obtain ⟨⟨a1, b1, h1⟩, _⟩ := h
        have hdq := dgN_lt N q
        have er : zrem (zi ((dgN N q : Nat) : Int)) (zi 2) = zi ((dgN N q % 2 : Nat) : Int) := by
          rw [zi_rem (by omega) (by omega) (by omega) (by omega)]
          rfl
        rw [if_neg (zne (by omega)), f235_eq h1 (by omega) (by omega), zb1_mk, er]
        rw [if_neg (by omega), if_pos ⟨t1, t2⟩] at nd
        by_cases c : dgN N q % 2 = 1
        · rw [if_pos c] at nd
          rw [if_neg (not_not_intro (by rw [c]; rfl))]
          exact go1 (hboth _ nd.symm)
        · rw [if_neg c] at nd
          rw [if_pos (zne (by omega))]
          exact go0 (hboth _ nd.symm)
      · rw [if_pos rfl]
        by_cases c : dgN N (q - 1) < 5
        · rw [if_pos c] at nd
          rw [if_pos (zlt (by omega))]
          exact go0 (hboth _ nd.symm)
        · rw [if_neg c, if_neg t1] at nd
          rw [if_neg (znlt (by omega))]
          exact go1 (hboth _ nd.symm)
theorem f171_step {N L H : Nat} {T : Int} (hT : topN N T) (hT1 : -400 ≤ T) (hT2 : T ≤ 404) (hL : L ≠ 0) (hLN : L < N) (hNH : N < H) {e : Int} (he : e = 0 ∨ e = 1) {n : Nat} (hn1 : 2 ≤ n) (hn2 : n ≤ 17) {s : zS} (h : TRI s N L H) :
    (∃ s' R T', (∀ rc, b171_86 rc (zi e) (zi n) s = some s') ∧ PK N L H (qn T n) (e = 1) R ∧ RD s' R (T - n + 1) T' ∧ TopR R (T - n + 1) T' ∧ fr [38] [27, 28] s s') ∨
    (∃ s', (∀ rc, b171_86 rc (zi e) (zi n) s = rc (zi e) (zi ((n + 1 : Nat) : Int)) s') ∧ NP N L H (qn T n) (e = 1) ∧ fr [38] [27, 28] s s') := by
  obtain ⟨q, hq⟩ : ∃ q : Int, q = T - n + 1 := ⟨_, rfl⟩
  have eQ : qn T n = 10 ^ (3780 + q).toNat := by
    unfold qn
    exact congrArg (10 ^ ·) (by omega)
  rw [eQ, ← hq]
  have hq1 : -500 ≤ q := by omega
  have hqT : q ≤ T := by omega
  have hl : T - q < 100 := by omega
  have hc := top_cut hT (q := q) (by omega) hqT
  have h' := h
  obtain ⟨⟨a1, b1, h1⟩, _, _⟩ := h'
  obtain ⟨t, t1, t2, t3⟩ := f237_eq h1 (top_ne hT)
  obtain rfl := topN_uniq t1 hT
  have hdm := Nat.div_add_mod N (10 ^ (3780 + q).toNat)
  have hlt := Nat.mod_lt N (p_pos (3780 + q).toNat)
  have eb : (N / 10 ^ (3780 + q).toNat + 1) * 10 ^ (3780 + q).toNat = N / 10 ^ (3780 + q).toNat * 10 ^ (3780 + q).toNat + 10 ^ (3780 + q).toNat := by rw [Nat.add_mul, Nat.one_mul]
  rw [Nat.mul_comm] at hdm
  -- below
  obtain ⟨s5, c1, c2, c3⟩ := f172_eq h1 hT (by omega) hqT (by omega)
  have h5 := h.mv c3 rfl rfl rfl rfl rfl rfl
  obtain ⟨v9, v1, v2, v3⟩ := f173_eq h5 hL (by omega) c2 (by omega) (by omega) (by omega) he (A := N / 10 ^ (3780 + q).toNat * 10 ^ (3780 + q).toNat) rfl
  have k9 : v9 = 1 ↔ inB N L (10 ^ (3780 + q).toNat) (e = 1) := by
    rw [v3]
    unfold inB
    generalize N / 10 ^ (3780 + q).toNat * 10 ^ (3780 + q).toNat = y at *
    constructor
    · intro g
      exact g.1
    · intro g
      exact ⟨g, .inl (by omega)⟩
  obtain ⟨⟨a5, b5, h51⟩, _, _⟩ := h5
  have h5 := h.mv c3 rfl rfl rfl rfl rfl rfl
  have f1 : f239 32 (zi q) s5 = some (zi (if N % 10 ^ (3780 + q).toNat = 0 then 0 else 1), s5) := f239_eq h51 (by omega) (by omega)
  have e35 : f235 32 (zi (q - 1)) s = some (zi (dgN N (q - 1) : Nat), s) := f235_eq h1 (by omega) (by omega)
  have eq1 : zi t - zi (n : Int) + zi 1 = zi q := by
    rw [zi_sub, zi_add, hq]
  have ebody : ∀ rc, b171_86 rc (zi e) (zi n) s = if ¬ zi (if N % 10 ^ (3780 + q).toNat = 0 then 0 else 1) = zi 0 then zb0 (f172 (zi q) s5) (fun s10 => zb0 (f164 s10) (fun s11 => zb1 (f173 (zi e) s11) (fun v13 s12 => if ¬ zi (dgN N (q - 1) : Nat) = (zi 5) then f171_187 rc (zi e) (zi n) (zi q) (zi (dgN N (q - 1) : Nat)) (zi v9) v13 (zi 0) s12 else zb1 (f239 32 (zi (q - 1)) s12) (fun v15 s14 => if ¬ v15 = zi 0 then f171_187 rc (zi e) (zi n) (zi q) (zi (dgN N (q - 1) : Nat)) (zi v9) v13 (zi 0) s14 else f171_187 rc (zi e) (zi n) (zi q) (zi (dgN N (q - 1) : Nat)) (zi v9) v13 (zi 1) s14)))) else some s5 := by
    intro rc
    unfold b171_86
    rw [t2, zb1_mk, eq1, zi_sub q 1, e35, zb1_mk, c1, zb0_mk, f1, zb1_mk, v1, zb1_mk]
  by_cases cx : N % 10 ^ (3780 + q).toNat = 0
  · left
    refine ⟨s5, _, t, fun rc => ?_, .inl ⟨cx, rfl⟩, c2, ⟨hqT, hc.1, c2.2.2.2.2⟩, c3⟩
    rw [ebody rc, if_pos cx, if_neg (not_not_intro rfl)]
  · obtain ⟨s10, d1, d2, d3⟩ := f172_eq h51 hT (by omega) hqT (by omega)
    obtain ⟨s11, T', g1, g2, g3, g4⟩ := f164_eq d2 (by omega) (by omega) (by omega)
    have f11 : fr [38] [27, 28] s s11 := (c3.trans d3).trans g4
    have h11 := h.mv f11 rfl rfl rfl rfl rfl rfl
    obtain ⟨v13, u1, u2, u3⟩ := f173_eq h11 hL (by omega) g2 (by omega) (by omega) (by omega) he (A := (N / 10 ^ (3780 + q).toNat + 1) * 10 ^ (3780 + q).toNat) rfl
    have k13 : v13 = 1 ↔ inA N H (10 ^ (3780 + q).toNat) (e = 1) := by
      rw [u3]
      unfold inA
      rw [eb]
      generalize N / 10 ^ (3780 + q).toNat * 10 ^ (3780 + q).toNat = y at *
      constructor
      · intro g
        exact g.2
      · intro g
        exact ⟨.inl (by omega), g⟩
    obtain ⟨⟨a11, b11, h111⟩, _, _⟩ := h11
    have h11 := h.mv f11 rfl rfl rfl rfl rfl rfl
    have f2 : f239 32 (zi (q - 1)) s11 = some (zi (if N % 10 ^ (3780 + (q - 1)).toNat = 0 then 0 else 1), s11) := f239_eq h111 (by omega) (by omega)
    have hd := dgN_lt N (q - 1)
    have etie : ∃ tie : Int, ((tie = 1 ∧ dgN N (q - 1) = 5 ∧ N % 10 ^ (3780 + (q - 1)).toNat = 0) ∨ (tie = 0 ∧ ¬ (dgN N (q - 1) = 5 ∧ N % 10 ^ (3780 + (q - 1)).toNat = 0))) ∧ ∀ rc, b171_86 rc (zi e) (zi n) s = f171_187 rc (zi e) (zi n) (zi q) (zi (dgN N (q - 1) : Nat)) (zi v9) (zi v13) (zi tie) s11 := by
      by_cases z1 : dgN N (q - 1) = 5
      · by_cases z2 : N % 10 ^ (3780 + (q - 1)).toNat = 0
        · refine ⟨1, .inl ⟨rfl, z1, z2⟩, fun rc => ?_⟩
          rw [ebody rc, if_neg cx, if_pos (show ¬ zi 1 = zi 0 from zne (by omega)), d1, zb0_mk, g1, zb0_mk, u1, zb1_mk, if_neg (not_not_intro (by rw [z1]; rfl)), f2, zb1_mk, if_pos z2, if_neg (not_not_intro rfl)]
        · refine ⟨0, .inr ⟨rfl, fun g => z2 g.2⟩, fun rc => ?_⟩
          rw [ebody rc, if_neg cx, if_pos (show ¬ zi 1 = zi 0 from zne (by omega)), d1, zb0_mk, g1, zb0_mk, u1, zb1_mk, if_neg (not_not_intro (by rw [z1]; rfl)), f2, zb1_mk, if_neg z2, if_pos (show ¬ zi 1 = zi 0 from zne (by omega))]
      · refine ⟨0, .inr ⟨rfl, fun g => z1 g.1⟩, fun rc => ?_⟩
        rw [ebody rc, if_neg cx, if_pos (show ¬ zi 1 = zi 0 from zne (by omega)), d1, zb0_mk, g1, zb0_mk, u1, zb1_mk, if_pos (zne (by omega))]
    obtain ⟨tie, ht, hbody⟩ := etie
    by_cases any : v9 = 1 ∨ v13 = 1
    · left
      obtain ⟨s', R, T2, m1, m2, m3, m4, m5⟩ := f171_202_eq h11 hT hT2 (by omega) hqT hl cx v2 u2 k9 k13 ht any
      refine ⟨s', R, T2, fun rc => ?_, m2, m3, m4, f11.trans m5⟩
      rw [hbody rc]
      unfold f171_187
      by_cases z : v9 = 1
      · rw [if_pos (zne (by omega))]
        exact m1
      · rw [if_neg (not_not_intro (zeq (by omega))), if_pos (zne (by omega))]
        exact m1
    · right
      refine ⟨s11, fun rc => ?_, ⟨cx, fun g => any (.inl (k9.mpr g)), fun g => any (.inr (k13.mpr g))⟩, f11⟩
      rw [hbody rc]
      unfold f171_187
      rw [if_neg (not_not_intro (zeq (by omega))), if_neg (not_not_intro (zeq (by omega))), zi_add]
      rfl
theorem f171_loop {N L H M w nr : Nat} (hE : EDG N L H M w nr) {T : Int} (hT : topN N T) (hT1 : -400 ≤ T) (hT2 : T ≤ 404) (hL : L ≠ 0) (hLN : L < N) (hNH : N < H) {e : Int} (he : e = 0 ∨ e = 1) : ∀ (d n fuel : Nat) (s : zS), d + n = 17 → 2 ≤ n → d < fuel → TRI s N L H → (∀ m, 2 ≤ m → m < n → NP N L H (qn T m) (e = 1)) →
    ∃ s' k R T', f171_86 fuel (zi e) (zi n) s = some s' ∧ SR N L H (e = 1) T k R ∧ RD s' R (T - k + 1) T' ∧ TopR R (T - k + 1) T' ∧ fr [38] [27, 28] s s' := by
  intro d
  induction d with
  | zero =>
    intro n fuel s hd h2 hf h hm
    obtain ⟨fuel, rfl⟩ : ∃ k, fuel = k + 1 := ⟨fuel - 1, by omega⟩
    have hn : n = 17 := by omega
    subst hn
    rcases f171_step hT hT1 hT2 hL hLN hNH he h2 (by omega) h with ⟨s', R, T', a1, a2, a3, a4, a5⟩ | ⟨s', a1, a2, a3⟩
    · exact ⟨s', 17, R, T', a1 _, ⟨h2, by omega, a2, hm⟩, a3, a4, a5⟩
    · exact absurd a2 (fun g => PK_NP (pk17 hE hT (by omega) (e = 1)) g)
  | succ d ih =>
    intro n fuel s hd h2 hf h hm
    obtain ⟨fuel, rfl⟩ : ∃ k, fuel = k + 1 := ⟨fuel - 1, by omega⟩
    rcases f171_step hT hT1 hT2 hL hLN hNH he h2 (by omega) h with ⟨s', R, T', a1, a2, a3, a4, a5⟩ | ⟨s', a1, a2, a3⟩
    · exact ⟨s', n, R, T', a1 _, ⟨h2, by omega, a2, hm⟩, a3, a4, a5⟩
    · obtain ⟨s2, k, R, T', b1, b2, b3, b4, b5⟩ := ih (n + 1) fuel s' (by omega) (by omega) (by omega) (h.mv a3 rfl rfl rfl rfl rfl rfl) (fun m m1 m2 => by
        by_cases z : m = n
        · rw [z]
          exact a2
        · exact hm m m1 (by omega))
      exact ⟨s2, k, R, T', (a1 _).trans b1, b2, b3, b4, a3.trans b5⟩
