/-! the reference: a digit added, an exponent read -/
theorem WW_j (j : Nat) : WW (j + 1) = 10 ^ (9 * (464 - j)) := by
  unfold WW
  exact congrArg (fun x => 10 ^ (9 * x)) (by omega)
theorem WW_dvd10 {j E : Nat} (h : 9 * (465 - j) ≤ E) : WW j ∣ 10 ^ E := Nat.pow_dvd_pow 10 h
theorem lb_add {N d E k i c : Nat} (hN : N = 10 ^ (E + 1) * c) (hd : d < 10) (hE : E = 9 * (464 - k) + i) (hi : i ≤ 8) (hk : k ≤ 464) : (∀ j, j < 465 → j ≠ k → lb (N + d * 10 ^ E) j = lb N j) ∧ lb (N + d * 10 ^ E) k = lb N k + d * 10 ^ i := by
  have hA : 0 < 10 ^ (E + 1) := p_pos _
  have e10 : 10 ^ (E + 1) = 10 * 10 ^ E := by rw [Nat.pow_succ, Nat.mul_comm]
  have hq : 0 < 10 ^ E := p_pos _
  constructor
  · intro j hj hjk
    rcases Nat.lt_or_ge k j with q | q
    · have d1 : WW j ∣ 10 ^ E := WW_dvd10 (by omega)
      have d2 : WW j ∣ N := by
        rw [hN, e10, Nat.mul_right_comm]
        exact Nat.dvd_mul_left_of_dvd d1 _
      rw [lb_above (b := j) d2 (Nat.le_refl _) hj, lb_above (b := j) (Nat.dvd_add d2 (Nat.dvd_mul_left_of_dvd d1 _)) (Nat.le_refl _) hj]
    · have hjk2 : j < k := by omega
      unfold lb
      have ew : WW (j + 1) = 10 ^ (E + 1) * 10 ^ (9 * (464 - j) - (E + 1)) := by
        rw [WW_j, ← Nat.pow_add]
        exact congrArg (10 ^ ·) (by omega)
      have x1 : (N + d * 10 ^ E) / 10 ^ (E + 1) = c := by
        rw [hN, Nat.mul_add_div hA, Nat.div_eq_of_lt, Nat.add_zero]
        rw [e10]
        exact Nat.mul_lt_mul_of_pos_right hd hq
      have x2 : N / 10 ^ (E + 1) = c := by rw [hN, Nat.mul_div_cancel_left _ hA]
      rw [ew, ← Nat.div_div_eq_div_mul, ← Nat.div_div_eq_div_mul, x1, x2]
  · unfold lb
    rw [WW_j]
    have hW : 0 < 10 ^ (9 * (464 - k)) := p_pos _
    have eE : 10 ^ E = 10 ^ (9 * (464 - k)) * 10 ^ i := by rw [hE, Nat.pow_add]
    have g9 : (1000000000 : Nat) = 10 ^ i * (10 * 10 ^ (8 - i)) := by
      have : 10 * 10 ^ (8 - i) = 10 ^ (9 - i) := by
        rw [Nat.mul_comm, ← Nat.pow_succ]
        exact congrArg (10 ^ ·) (by omega)
      rw [this, ← Nat.pow_add]
      have : i + (9 - i) = 9 := by omega
      rw [this]
    have x1 : (N + d * 10 ^ E) / 10 ^ (9 * (464 - k)) = 10 ^ i * (10 * c + d) := by
      have : N + d * 10 ^ E = 10 ^ (9 * (464 - k)) * (10 ^ i * (10 * c + d)) := by
        rw [hN, e10, eE, Nat.mul_add, Nat.mul_add]
        ac_rfl
      rw [this, Nat.mul_div_cancel_left _ hW]
    have x2 : N / 10 ^ (9 * (464 - k)) = 10 ^ i * (10 * c) := by
      have : N = 10 ^ (9 * (464 - k)) * (10 ^ i * (10 * c)) := by
        rw [hN, e10, eE]
        ac_rfl
      rw [this, Nat.mul_div_cancel_left _ hW]
    rw [x1, x2, g9, Nat.mul_mod_mul_left, Nat.mul_mod_mul_left, Nat.mul_mod_mul_left]
    have hh : 0 < 10 ^ (8 - i) := p_pos _
    have x3 : (10 * c + d) % (10 * 10 ^ (8 - i)) = 10 * (c % 10 ^ (8 - i)) + d := by
      have h1 := Nat.div_add_mod c (10 ^ (8 - i))
      have h2 := Nat.mod_lt c hh
      have h3 : 10 * c + d = 10 * 10 ^ (8 - i) * (c / 10 ^ (8 - i)) + (10 * (c % 10 ^ (8 - i)) + d) := by
        rw [Nat.mul_assoc]
        generalize 10 ^ (8 - i) * (c / 10 ^ (8 - i)) = y at *
        generalize c % 10 ^ (8 - i) = z at *
        omega
      rw [h3, Nat.mul_add_mod, Nat.mod_eq_of_lt]
      generalize 10 ^ (8 - i) = y at *
      generalize c % y = z at *
      omega
    rw [x3, Nat.mul_add, Nat.mul_comm (10 ^ i) d]
theorem f240_loop {k i d : Nat} (hi : i ≤ 8) (hd : d ≤ 9) {s : zS} : ∀ (m j n : Nat), m + j = i → m < n → f240_54 32 n (zi k) (zi i) (zi (d * 10 ^ j : Nat)) (zi j) s = f240_54 32 (n - m) (zi k) (zi i) (zi (d * 10 ^ i : Nat)) (zi i) s := by
  intro m
  induction m with
  | zero =>
    intro j n hm hn
    have e : j = i := by omega
    rw [e, Nat.sub_zero]
  | succ m ih =>
    intro j n hm hn
    obtain ⟨n, rfl⟩ : ∃ k, n = k + 1 := ⟨n - 1, by omega⟩
    have e1 : zi ((d * 10 ^ j : Nat) : Int) * zi 10 = zi ((d * 10 ^ (j + 1) : Nat) : Int) := by
      rw [zi_mul, Nat.pow_succ, ← Nat.mul_assoc]
      rfl
    have e2 : zi (j : Int) + zi 1 = zi ((j + 1 : Nat) : Int) := zi_add _ _
    have a := ih (j + 1) n (by omega) (by omega)
    have e3 : n + 1 - (m + 1) = n - m := by omega
    rw [e3, ← a]
    show b240_54 32 (f240_54 32 n) _ _ _ _ _ = _
    unfold b240_54
    rw [if_neg (znge (by omega)), e1, e2]
theorem f240_eq {s : zS} {N a b d : Nat} {pos : Int} (hD : DEC s 32 N a b) (hT : (N = 0 ∧ a = b) ∨ WW (a + 1) ≤ N) (h1 : -3780 ≤ pos) (h2 : pos ≤ 404) (hd1 : 1 ≤ d) (hd2 : d ≤ 9) (hdv : 10 ^ ((3780 + pos).toNat + 1) ∣ N) :
    ∃ (s' : zS) (a' b' : Nat), f240 32 (zi d) (zi pos) s = some s' ∧ DEC s' 32 (N + d * 10 ^ (3780 + pos).toNat) a' b' ∧ WW (a' + 1) ≤ N + d * 10 ^ (3780 + pos).toNat ∧ fr [32, 33] [] s s' := by
  obtain ⟨E, hE⟩ : ∃ E, E = (3780 + pos).toNat := ⟨_, rfl⟩
  rw [← hE] at hdv ⊢
  obtain ⟨k, hk⟩ : ∃ k, k = 464 - E / 9 := ⟨_, rfl⟩
  obtain ⟨i, hi⟩ : ∃ i, i = E % 9 := ⟨_, rfl⟩
  have hEk : E = 9 * (464 - k) + i := by omega
  obtain ⟨c, hc⟩ := hdv
  obtain ⟨l1, l2⟩ := lb_add (d := d) (k := k) (i := i) hc (by omega) hEk (by omega) (by omega)
  have hlt := lb_lt (N + d * 10 ^ E) k
  have h3 := hD.2.2.1
  have h4 := hD.2.2.2.1
  have hW := hD.2.2.2.2.2.1
  have e54 : f240 32 (zi d) (zi pos) s = f240_54 32 zF (zi k) (zi i) (zi d) (zi 0) s := by
    unfold f240 f240_24
    by_cases g : pos < 0
    · obtain ⟨t, ht⟩ : ∃ t : Nat, -pos - 1 = t := ⟨(-pos - 1).toNat, by omega⟩
      have q1 : zi 45 + zi (t : Int) / zi 9 = zi (k : Int) := by
        rw [zi_div (by omega) (by omega) (by omega) (by omega)]
        have : (t : Int).tdiv 9 = ((t / 9 : Nat) : Int) := rfl
        rw [this, zi_add]
        exact congrArg zi (by omega)
      have q2 : zi 8 - zrem (zi (t : Int)) (zi 9) = zi (i : Int) := by
        rw [zi_rem (by omega) (by omega) (by omega) (by omega)]
        have : (t : Int).tmod 9 = ((t % 9 : Nat) : Int) := rfl
        rw [this, zi_sub]
        exact congrArg zi (by omega)
      rw [if_pos (zlt (by omega)), if_pos (zlt (by omega)), zi_neg, zi_sub, ht, q1, q2]
    · obtain ⟨t, ht⟩ : ∃ t : Nat, pos = t := ⟨pos.toNat, by omega⟩
      subst ht
      have q1 : zi 44 - zi (t : Int) / zi 9 = zi (k : Int) := by
        rw [zi_div (by omega) (by omega) (by omega) (by omega)]
        have : (t : Int).tdiv 9 = ((t / 9 : Nat) : Int) := rfl
        rw [this, zi_sub]
        exact congrArg zi (by omega)
      have q2 : zrem (zi (t : Int)) (zi 9) = zi (i : Int) := by
        rw [zi_rem (by omega) (by omega) (by omega) (by omega)]
        have : (t : Int).tmod 9 = ((t % 9 : Nat) : Int) := rfl
        rw [this]
        exact congrArg zi (by omega)
      rw [if_neg (znlt (by omega)), if_neg (znlt (by omega)), q1, q2]
  have p0 := f240_loop (k := k) (i := i) (d := d) (s := s) (by omega) hd2 i 0 zF (by omega) (by unfold zF; omega)
  rw [Nat.pow_zero, Nat.mul_one] at p0
  obtain ⟨n, hn⟩ : ∃ n, zF - i = n + 1 := ⟨zF - i - 1, by unfold zF; omega⟩
  have ezk : zi (k : Int) + zi 1 = zi ((k + 1 : Nat) : Int) := zi_add _ _
  have hix : mIx (zi (k : Int)) 465 := zi_ix (by omega) (by omega) (by omega)
  have hw : s.1 (32 + 1) (zi (k : Int)).toNatClampNeg = zi (lb N k : Nat) := by
    rw [zi_toNat (by omega)]
    exact hD.2.2.2.2.1 k (by omega)
  have ew : zi (lb N k : Nat) + zi ((d * 10 ^ i : Nat) : Int) = zi (lb (N + d * 10 ^ E) k : Nat) := by
    rw [l2]
    exact zi_add _ _
  have body : f240_54 32 (n + 1) (zi k) (zi i) (zi (d * 10 ^ i : Nat)) (zi i) s = if ¬ zi (a : Int) = zi (b : Int) then f240_108 32 (zi k) (setB s 33 k (zi (lb (N + d * 10 ^ E) k : Nat))) else f240_108 32 (zi k) (setI (setI (setB s 33 k (zi (lb (N + d * 10 ^ E) k : Nat))) 32 1 (zi k)) 32 2 (zi ((k + 1 : Nat) : Int))) := by
    show b240_54 32 (f240_54 32 n) _ _ _ _ _ = _
    unfold b240_54
    rw [if_pos (zge (by omega)), if_pos hix, if_pos hix, hD.1, hD.2.1, hw, ew, ezk, zi_toNat (by omega)]
  have hlim : ∀ j, j < 465 → (setB s 33 k (zi (lb (N + d * 10 ^ E) k : Nat))).1 33 j = zi (lb (N + d * 10 ^ E) j : Nat) := by
    intro j hj
    rw [gB_eq]
    by_cases g : j = k
    · rw [g, upd_eq]
    · rw [upd_ne g, l1 j hj g]
      exact hD.2.2.2.2.1 j hj
  have dvE : WW (k + 1) ∣ 10 ^ E := WW_dvd10 (by omega)
  have hE1 : WW (k + 1) ≤ 10 ^ E := Nat.le_of_dvd (p_pos _) dvE
  have hdE : 1 * 10 ^ E ≤ d * 10 ^ E := Nat.mul_le_mul_right _ hd1
  rw [Nat.one_mul] at hdE
  have hdE2 : d * 10 ^ E < 10 ^ (E + 1) := by
    rw [Nat.pow_succ, Nat.mul_comm (10 ^ E)]
    exact Nat.mul_lt_mul_of_pos_right (by omega) (p_pos _)
  have p0' : f240_54 32 zF (zi k) (zi i) (zi d) (zi 0) s = f240_54 32 (zF - i) (zi k) (zi i) (zi (d * 10 ^ i : Nat)) (zi i) s := p0
  rw [e54, p0', hn, body]
  rcases hT with ⟨hT, hab⟩ | hT
  · rw [if_neg (not_not_intro (zeq (by omega)))]
    have hNz : N + d * 10 ^ E = d * 10 ^ E := by rw [hT, Nat.zero_add]
    refine ⟨setI (setI (setI (setI (setB s 33 k (zi (lb (N + d * 10 ^ E) k : Nat))) 32 1 (zi k)) 32 2 (zi ((k + 1 : Nat) : Int))) 32 1 (zi k)) 32 2 (zi ((k + 1 : Nat) : Int)), k, k + 1, ?_, ⟨rfl, rfl, by omega, by omega, hlim, ?_, ?_⟩, ?_, ((((fr.refl.sB rfl).sI (.inl rfl)).sI (.inl rfl)).sI (.inl rfl)).sI (.inl rfl)⟩
    · unfold f240_108
      have g1 : r265 ((setI (setI (setB s 33 k (zi (lb (N + d * 10 ^ E) k : Nat))) 32 1 (zi k)) 32 2 (zi ((k + 1 : Nat) : Int))).1 32 1) (zi (k : Int)) (setI (setI (setB s 33 k (zi (lb (N + d * 10 ^ E) k : Nat))) 32 1 (zi k)) 32 2 (zi ((k + 1 : Nat) : Int))) = zi (k : Int) := by
        refine (r265_min (a := k) (b := k) (by omega) (by omega) (by omega) (by omega)).trans ?_
        exact congrArg zi (by omega)
      rw [g1, ezk]
      have g2 : ∀ s', r264 ((setI (setI (setB s 33 k (zi (lb (N + d * 10 ^ E) k : Nat))) 32 1 (zi k)) 32 2 (zi ((k + 1 : Nat) : Int))).1 32 2) (zi ((k + 1 : Nat) : Int)) s' = zi ((k + 1 : Nat) : Int) := by
        intro s'
        refine (r264_max (a := ((k + 1 : Nat) : Int)) (b := ((k + 1 : Nat) : Int)) (by omega) (by omega) (by omega) (by omega)).trans ?_
        exact congrArg zi (by omega)
      rw [g2]
    · rw [hNz]
      refine Nat.lt_of_lt_of_le hdE2 ?_
      unfold WW
      exact Nat.pow_le_pow_right (by decide) (by omega)
    · rw [hNz]
      exact Nat.dvd_mul_left_of_dvd dvE d
    · rw [hNz]
      omega
  · have hNpos : 0 < N := Nat.lt_of_lt_of_le (WW_pos _) hT
    have hab : a ≠ b := by
      intro g
      have := Nat.le_of_dvd hNpos hD.2.2.2.2.2.2
      rw [← g] at this
      omega
    have hNE : 10 ^ (E + 1) ≤ N := Nat.le_of_dvd hNpos ⟨c, hc⟩
    have hak : a ≤ k := by
      rcases Nat.lt_or_ge k a with g | g
      · exfalso
        have m1 : WW a ≤ WW (k + 1) := WW_mono g
        have m2 : 10 ^ E < 10 ^ (E + 1) := Nat.pow_lt_pow_right (by decide) (by omega)
        omega
      · exact g
    rw [if_pos (zne (by omega))]
    obtain ⟨b', hb'⟩ : ∃ b', b' = max b (k + 1) := ⟨_, rfl⟩
    refine ⟨setI (setI (setB s 33 k (zi (lb (N + d * 10 ^ E) k : Nat))) 32 1 (zi a)) 32 2 (zi (b' : Nat)), a, b', ?_, ⟨rfl, rfl, by omega, by omega, hlim, ?_, ?_⟩, ?_, ((fr.refl.sB rfl).sI (.inl rfl)).sI (.inl rfl)⟩
    · unfold f240_108
      have g1 : r265 ((setB s 33 k (zi (lb (N + d * 10 ^ E) k : Nat))).1 32 1) (zi (k : Int)) (setB s 33 k (zi (lb (N + d * 10 ^ E) k : Nat))) = zi (a : Int) := by
        have e0 : (setB s 33 k (zi (lb (N + d * 10 ^ E) k : Nat))).1 32 1 = zi (a : Int) := hD.1
        rw [e0, r265_min (by omega) (by omega) (by omega) (by omega)]
        exact congrArg zi (by omega)
      have g2 : ∀ s', r264 ((setB s 33 k (zi (lb (N + d * 10 ^ E) k : Nat))).1 32 2) (zi ((k + 1 : Nat) : Int)) s' = zi (b' : Int) := by
        intro s'
        have e0 : (setB s 33 k (zi (lb (N + d * 10 ^ E) k : Nat))).1 32 2 = zi (b : Int) := hD.2.1
        rw [e0, r264_max (by omega) (by omega) (by omega) (by omega)]
        exact congrArg zi (by omega)
      rw [g1, ezk, g2]
    · have dW : 10 ^ (E + 1) ∣ WW a := by
        unfold WW
        exact Nat.pow_dvd_pow 10 (by omega)
      obtain ⟨w, hw'⟩ := dW
      rw [hc, hw'] at hW
      have hcw : c < w := Nat.lt_of_mul_lt_mul_left hW
      have h5 : 10 ^ (E + 1) * (c + 1) ≤ 10 ^ (E + 1) * w := Nat.mul_le_mul_left _ hcw
      rw [Nat.mul_add, Nat.mul_one, ← hc, ← hw'] at h5
      omega
    · exact Nat.dvd_add (Nat.dvd_trans (WW_dvd (by omega)) hD.2.2.2.2.2.2) (Nat.dvd_mul_left_of_dvd (Nat.dvd_trans (WW_dvd (by omega)) dvE) d)
    · omega
/-! power -/
theorem DGO_ch {l : List Int} {e r j : Nat} : DGO l e r j ↔ 48 ≤ ch l e (r + j) ∧ ch l e (r + j) ≤ 57 := by
  unfold DGO ch
  by_cases c : r + j < e
  · rw [if_pos c]
    exact ⟨fun h => h.2, fun h => ⟨c, h⟩⟩
  · rw [if_neg c]
    exact ⟨fun h => absurd h.1 c, fun h => by omega⟩
theorem f209_loop {l : List Int} {p e r : Nat} {ngv : Int} (hn : ngv = 0 ∨ ngv = 1) (hr : r ≤ e) {x1 : Int32} : ∀ (d j n : Nat) (s : zS), d + r + j = e → d < n → (∀ i, i < j → DGO l e r i) → MT s l p e →
    ∃ J s', f209_55 n x1 (zi ((r + j : Nat) : Int)) (zi (EV l r j)) (zi ngv) s = some (zi (if ngv = 0 then EV l r J else -EV l r J), s') ∧ DST l e r J ∧ j ≤ J ∧ s'.1 24 40 = (if r + J = e then s.1 24 40 else zi 0) ∧ fr [] [40] s s' := by
  intro d
  induction d with
  | zero =>
    intro j n s hd hn' hgo hM
    obtain ⟨n, rfl⟩ : ∃ k, n = k + 1 := ⟨n - 1, by omega⟩
    have h5 := hM.2.2.2.2.1
    have h6 := hM.2.2.2.2.2
    have hc : ch l e (r + j) = -1 := if_neg (by omega)
    refine ⟨j, s, ?_, ⟨hgo, fun q => by have := q.1; omega⟩, Nat.le_refl _, by rw [if_pos (by omega)], fr.refl⟩
    show b209_55 (f209_55 n) _ _ _ _ _ = _
    unfold b209_55
    rw [f205_eq hM (by omega), zb1_mk, hc, r196_eq (by omega) (by omega), if_neg (show ¬ ((48 : Int) ≤ -1 ∧ (-1 : Int) ≤ 57) by omega), if_pos rfl, hM.2.2.2.1, if_pos (zeq (by omega))]
    unfold f209_105
    rcases hn with rfl | rfl
    · rw [if_pos rfl, if_pos rfl]
    · rw [if_neg (zne (by omega)), if_neg (show ¬ (1 : Int) = 0 by decide), zi_neg]
  | succ d ih =>
    intro j n s hd hn' hgo hM
    obtain ⟨n, rfl⟩ : ∃ k, n = k + 1 := ⟨n - 1, by omega⟩
    have h5 := hM.2.2.2.2.1
    have h6 := hM.2.2.2.2.2
    have hr := ch_rng hM.2.1 e (r + j)
    have hev := EV_rng j hgo
    have hc : ch l e (r + j) = atl l (r + j : Nat) := if_pos (by omega)
    by_cases g : 48 ≤ ch l e (r + j) ∧ ch l e (r + j) ≤ 57
    · obtain ⟨J, s', a1, a2, a3, a4, a5⟩ := ih (j + 1) n s (by omega) (by omega) (fun i hi => by
        by_cases q : i = j
        · rw [q]; exact DGO_ch.mpr g
        · exact hgo i (by omega)) hM
      refine ⟨J, s', ?_, a2, by omega, a4, a5⟩
      show b209_55 (f209_55 n) _ _ _ _ _ = _
      unfold b209_55
      have e1 : zi ((r + j : Nat) : Int) + zi 1 = zi ((r + (j + 1) : Nat) : Int) := zi_add _ _
      have e2 : r265 (zi 10 * zi (EV l r j) + zi (ch l e (r + j)) - zi 48) (zi 100000) s = zi (EV l r (j + 1)) := by
        rw [zi_mul, zi_add, zi_sub, r265_min (by omega) (by omega) (by omega) (by omega), hc]
        show zi _ = zi (min (EV l r j * 10 + (atl l (r + j : Nat) - 48)) 100000)
        exact congrArg zi (by omega)
      rw [f205_eq hM (by omega), zb1_mk, r196_eq (by omega) (by omega), if_pos g, if_neg (zne (by omega)), f205_eq hM (by omega), zb1_mk, e1, e2]
      exact a1
    · have hre : r + j < e := by omega
      refine ⟨j, setI s 24 40 (zi 0), ?_, ⟨hgo, fun q => g (DGO_ch.mp q)⟩, Nat.le_refl _, by rw [if_neg (by omega)]; rfl, fr.refl.sI (.inr ⟨rfl, rfl⟩)⟩
      show b209_55 (f209_55 n) _ _ _ _ _ = _
      unfold b209_55
      rw [f205_eq hM (by omega), zb1_mk, r196_eq (by omega) (by omega), if_neg g, if_pos rfl, hM.2.2.2.1, if_neg (zne (by omega))]
      unfold f209_105
      rcases hn with rfl | rfl
      · rw [if_pos rfl, if_pos rfl]
      · rw [if_neg (zne (by omega)), if_neg (show ¬ (1 : Int) = 0 by decide), zi_neg]
theorem f209_39_eq {l : List Int} {p e r : Nat} {ngv : Int} (hn : ngv = 0 ∨ ngv = 1) (hr : r ≤ e) {x1 : Int32} {s : zS} (hM : MT s l p e) : ∃ J s', f209_39 x1 (zi (r : Int)) (zi 0) (zi ngv) s = some (zi (if ngv = 0 then EV l r J else -EV l r J), s') ∧ DST l e r J ∧ s'.1 24 40 = (if J ≠ 0 ∧ r + J = e then s.1 24 40 else zi 0) ∧ fr [] [40] s s' := by
  have h5 := hM.2.2.2.2.1
  have h6 := hM.2.2.2.2.2
  have hrr := ch_rng hM.2.1 e r
  unfold f209_39
  rw [f205_eq hM (by omega), zb1_mk, r196_eq (by omega) (by omega)]
  have r0 : r + 0 = r := rfl
  by_cases g : 48 ≤ ch l e r ∧ ch l e r ≤ 57
  · rw [if_pos g, if_pos (zne (by omega))]
    obtain ⟨J, s', a1, a2, a3, a4, a5⟩ := f209_loop hn hr (x1 := x1) (e - r) 0 zF s (by omega) (by unfold zF; omega) (fun i hi => by omega) hM
    have hJ : J ≠ 0 := by
      intro q
      have := a2.2
      rw [q, DGO_ch, r0] at this
      exact this g
    refine ⟨J, s', a1, a2, ?_, a5⟩
    rw [a4]
    by_cases q : r + J = e
    · rw [if_pos q, if_pos ⟨hJ, q⟩]
    · rw [if_neg q, if_neg (fun w => q w.2)]
  · rw [if_neg g, if_neg (not_not_intro rfl)]
    have hM' : MT (setI s 24 40 (zi 0)) l p e := hM
    obtain ⟨J, s', a1, a2, a3, a4, a5⟩ := f209_loop hn hr (x1 := x1) (e - r) 0 zF (setI s 24 40 (zi 0)) (by omega) (by unfold zF; omega) (fun i hi => by omega) hM'
    have hJ : J = 0 := by
      rcases Nat.eq_zero_or_pos J with q | q
      · exact q
      · have := a2.1 0 q
        rw [DGO_ch, r0] at this
        exact absurd this g
    refine ⟨J, s', a1, a2, ?_, (fr.refl.sI (.inr ⟨rfl, rfl⟩)).trans a5⟩
    rw [a4, if_neg (fun w : J ≠ 0 ∧ r + J = e => w.1 hJ)]
    have z : (setI s 24 40 (zi 0)).1 24 40 = zi 0 := rfl
    rw [z]
    split <;> rfl
theorem f209_eq {l : List Int} {p e q : Nat} (hq : q ≤ e) {s : zS} (hM : MT s l p e) : ∃ J s', f209 (zi (q : Int)) s = some (zi (if ng l e q = 0 then EV l (sg l e q) J else -EV l (sg l e q) J), s') ∧ DST l e (sg l e q) J ∧ s'.1 24 40 = (if J ≠ 0 ∧ sg l e q + J = e then s.1 24 40 else zi 0) ∧ fr [] [40] s s' := by
  have h5 := hM.2.2.2.2.1
  have h6 := hM.2.2.2.2.2
  have hrr := ch_rng hM.2.1 e q
  have hsg := sg_le (l := l) hq
  have e1 : zi (q : Int) + zi 1 = zi ((q + 1 : Nat) : Int) := zi_add _ _
  unfold f209 f209_19
  rw [f205_eq hM (by omega), zb1_mk]
  unfold sg ng at *
  by_cases c1 : ch l e q = 45
  · rw [if_pos (show ch l e q = 43 ∨ ch l e q = 45 from .inr c1)] at *
    rw [if_pos c1, c1, if_neg (not_not_intro rfl), if_pos (zne (by omega)), e1]
    exact f209_39_eq (.inr rfl) hsg.2 hM
  · rw [if_neg c1, if_pos (zne (by omega)), if_neg (not_not_intro rfl), f205_eq hM (by omega), zb1_mk]
    by_cases c2 : ch l e q = 43
    · rw [if_pos (show ch l e q = 43 ∨ ch l e q = 45 from .inl c2)] at *
      rw [c2, if_neg (not_not_intro rfl), e1]
      exact f209_39_eq (.inl rfl) hsg.2 hM
    · rw [if_neg (show ¬ (ch l e q = 43 ∨ ch l e q = 45) from fun w => w.elim c2 c1)] at *
      rw [if_pos (zne (by omega))]
      exact f209_39_eq (.inl rfl) hsg.2 hM
