/-! format -/
def spN (g : List Int) (p : Nat) : Nat := match sp g p with
  | none => p + 1
  | some (_, _, _, _, (_, _, _, nx)) => nx
theorem fl_ge {g : List Int} : ∀ (d p : Nat) (f : Int32) (t : Int), d + p = g.length → p ≤ (fl g p f t).2.2 := by
  intro d
  induction d with
  | zero =>
    intro p f t hd
    rw [fl_no (by rw [atl_ge (by omega)]; exact ix_flags0)]
    exact Nat.le_refl _
  | succ d ih =>
    intro p f t hd
    by_cases h0 : zidx 56 (zi (atl g p)) < zi 0
    · rw [fl_no h0]
      exact Nat.le_refl _
    · rw [fl_yes h0]
      have := ih (p + 1) (f ||| fbit g p) (if t = 0 ∧ (f &&& fbit g p) = zi 0 then 0 else 1) (by omega)
      omega
/-- what a spec that can be read is made of -/
theorem sp_some {g : List Int} (ha : asc g) {p : Nat} (hp : p < g.length) {w : Int} {f : Int32} {t : Int} {q : Nat} {W pr cv cap su : Int} {nx : Nat} (h : sp g p = some (w, (f, t, q), W, pr, (cv, cap, su, nx))) :
    p < nx ∧ nx ≤ g.length ∧ (t = 0 ∨ t = 1) ∧ (W = -1 ∨ 1 ≤ W) ∧ W ≤ 2000 ∧ -1 ≤ pr ∧ pr ≤ 1100 ∧ -1 ≤ w ∧ w < 10000 ∧ (cap = 0 ∨ cap = 1) ∧ ∃ q4 : Nat, spC g q4 = some (cv, cap, su, nx) := by
  unfold sp at h
  cases hA : spA g p with
  | none => rw [hA] at h; cases h
  | some x =>
    obtain ⟨w', q1⟩ := x
    rw [hA] at h
    dsimp only at h
    have hq1 : p < q1 ∧ q1 ≤ g.length ∧ -1 ≤ w' ∧ w' < 10000 := by
      have hle := nd_le (g := g) (g.length - (p + 1)) (p + 1) (by omega)
      unfold spA at hA
      by_cases y1 : nd g (p + 1) > 0 ∧ atl g (p + 1 + nd g (p + 1) : Nat) = 36
      · have hin := atl_in (g := g) (p := p + 1 + nd g (p + 1)) (by omega)
        rw [if_pos y1] at hA
        by_cases y2 : nd g (p + 1) > 4 ∨ atl g (p + 1 : Nat) = 48
        · rw [if_pos y2] at hA
          cases hA
        · rw [if_neg y2] at hA
          have hv := dv_range (g := g) (p := p + 1) (nd g (p + 1)) (by omega) (Nat.le_refl _)
          injection hA with hA
          injection hA with e1 e2
          omega
      · rw [if_neg y1] at hA
        by_cases y2 : atl g (p + 1 : Nat) = 60
        · have hin := atl_in (g := g) (p := p + 1) (by omega)
          rw [if_pos y2] at hA
          injection hA with hA
          injection hA with e1 e2
          omega
        · rw [if_neg y2] at hA
          injection hA with hA
          injection hA with e1 e2
          omega
    have b0 := fl_all (g := g) (g.length - q1) q1 (zi 0) 0 (by omega) (.inl rfl)
    have b1 := fl_ge (g := g) (g.length - q1) q1 (zi 0) 0 (by omega)
    generalize hfl : fl g q1 (zi 0) 0 = FL at *
    obtain ⟨f', t', q2⟩ := FL
    dsimp only at h b0 b1
    cases hB : spW g q2 with
    | none => rw [hB] at h; cases h
    | some x =>
      obtain ⟨W', q3⟩ := x
      rw [hB] at h
      dsimp only at h
      have hq3 : q2 ≤ q3 ∧ q3 ≤ g.length ∧ (W' = -1 ∨ 1 ≤ W') ∧ W' ≤ 2000 := by
        have hle := nd_le (g := g) (g.length - q2) q2 (by omega)
        unfold spW at hB
        by_cases y1 : nd g q2 > 4
        · rw [if_pos y1] at hB
          cases hB
        · rw [if_neg y1] at hB
          by_cases y2 : dv g q2 (nd g q2) > 2000
          · rw [if_pos y2] at hB
            cases hB
          · rw [if_neg y2] at hB
            injection hB with hB
            injection hB with e1 e2
            by_cases z : nd g q2 = 0
            · rw [if_pos z] at e1
              omega
            · rw [if_neg z] at e1
              have h48 := nd_dig (g := g) 0 q2 (by omega)
              rw [Nat.add_zero] at h48
              have hne : ¬ atl g q2 = 48 := fun e => by
                have := b0.2.2
                rw [e] at this
                exact ix_flag48 this
              obtain ⟨k, hk⟩ : ∃ k, nd g q2 = k + 1 := ⟨nd g q2 - 1, by omega⟩
              have := dv_pos (g := g) (p := q2) (by omega) k (by omega)
              rw [← hk] at this
              omega
      cases hC : spP g q3 with
      | none => rw [hC] at h; cases h
      | some x =>
        obtain ⟨pr', q4⟩ := x
        rw [hC] at h
        dsimp only at h
        have hq4 : q3 ≤ q4 ∧ q4 ≤ g.length ∧ -1 ≤ pr' ∧ pr' ≤ 1100 := by
          unfold spP at hC
          by_cases y0 : atl g q3 = 46
          · have hin := atl_in (g := g) (p := q3) (by omega)
            have hle := nd_le (g := g) (g.length - (q3 + 1)) (q3 + 1) (by omega)
            rw [if_pos y0] at hC
            by_cases y1 : nd g (q3 + 1) = 0
            · rw [if_pos y1] at hC
              cases hC
            · rw [if_neg y1] at hC
              by_cases y2 : nd g (q3 + 1) > 4
              · rw [if_pos y2] at hC
                cases hC
              · rw [if_neg y2] at hC
                have hv := dv_range (g := g) (p := q3 + 1) (nd g (q3 + 1)) (by omega) (Nat.le_refl _)
                by_cases y3 : dv g (q3 + 1) (nd g (q3 + 1)) > 1100
                · rw [if_pos y3] at hC
                  cases hC
                · rw [if_neg y3] at hC
                  injection hC with hC
                  injection hC with e1 e2
                  omega
          · rw [if_neg y0] at hC
            injection hC with hC
            injection hC with e1 e2
            omega
        cases hD : spC g q4 with
        | none => rw [hD] at h; cases h
        | some x =>
          obtain ⟨cv', cap', su', nx'⟩ := x
          rw [hD] at h
          dsimp only at h
          have hn : q4 < nx' ∧ nx' ≤ g.length ∧ (cap' = 0 ∨ cap' = 1) := by
            have hD' := hD
            unfold spC at hD'
            have hcap : capOf (atl g q4) = 0 ∨ capOf (atl g q4) = 1 := by
              unfold capOf
              split <;> omega
            by_cases y1 : atl g q4 < 0 ∨ zidx 57 (zi (atl g q4)) < zi 0
            · rw [if_pos y1] at hD'
              cases hD'
            · have hin := atl_in (g := g) (p := q4) (by
                have : ¬ atl g q4 < 0 := fun h => y1 (.inl h)
                omega)
              rw [if_neg y1] at hD'
              by_cases y2 : cvOf (atl g q4) = 116
              · rw [if_pos y2] at hD'
                by_cases y3 : atl g (q4 + 1 : Nat) < 0 ∨ zidx 58 (zi (atl g (q4 + 1 : Nat))) < zi 0
                · rw [if_pos y3] at hD'
                  cases hD'
                · have hin2 := atl_in (g := g) (p := q4 + 1) (by
                    have : ¬ atl g (q4 + 1 : Nat) < 0 := fun h => y3 (.inl h)
                    omega)
                  rw [if_neg y3] at hD'
                  injection hD' with hD'
                  injection hD' with e1 e2
                  injection e2 with e2 e3
                  injection e3 with e3 e4
                  refine ⟨by omega, by omega, ?_⟩
                  rw [← e2]
                  exact hcap
              · rw [if_neg y2] at hD'
                injection hD' with hD'
                injection hD' with e1 e2
                injection e2 with e2 e3
                injection e3 with e3 e4
                refine ⟨by omega, by omega, ?_⟩
                rw [← e2]
                exact hcap
          injection h with h
          injection h with h1 h
          injection h with h2 h
          injection h with h3 h
          injection h with h4 h
          injection h with h5 h
          injection h with h6 h
          injection h with h7 h8
          injection h2 with h2 h9
          injection h9 with h9 h10
          subst h1 h2 h3 h4 h5 h6 h7 h8 h9 h10
          exact ⟨by omega, hn.2.1, b0.2.1, hq3.2.2.1, hq3.2.2.2, hq4.2.2.1, hq4.2.2.2, hq1.2.2.1, hq1.2.2.2, hn.2.2, q4, hD⟩
theorem flt_range (f : Int32) (t W pr cv : Int) : 0 ≤ flt f t W pr cv ∧ flt f t W pr cv ≤ 7 := by
  unfold flt
  repeat' split
  all_goals omega
theorem spF_range (g : List Int) (p : Nat) : 0 ≤ spF g p ∧ spF g p ≤ 7 := by
  unfold spF
  split
  · omega
  · exact flt_range _ _ _ _ _
/-- a spec without a fault -/
theorem spF_zero {g : List Int} (ha : asc g) {p : Nat} (hp : p < g.length) (h : spF g p = 0) : ∃ w f t q W pr cv cap su, sp g p = some (w, (f, t, q), W, pr, (cv, cap, su, spN g p)) ∧ flt f t W pr cv = 0 ∧ p < spN g p ∧ spN g p ≤ g.length := by
  unfold spF at h
  cases hs : sp g p with
  | none => rw [hs] at h; cases h
  | some x =>
    obtain ⟨w, ⟨f, t, q⟩, W, pr, cv, cap, su, nx⟩ := x
    rw [hs] at h
    dsimp only at h
    have hn : spN g p = nx := by
      unfold spN
      rw [hs]
    have := sp_some ha hp hs
    rw [hn]
    exact ⟨w, f, t, q, W, pr, cv, cap, su, rfl, h, this.1, this.2.1⟩
/-- the whole format: so many specs, or the first fault and its place -/
def fmt (g : List Int) : Nat → Nat → Nat → Nat ⊕ (Int × Nat)
  | 0, c, _ => .inl c
  | k + 1, c, p => if g.length ≤ p then .inl c else if atl g p = 37 then (if spF g p = 0 then fmt g k (c + 1) (spN g p) else .inr (spF g p, p)) else fmt g k c (p + 1)
def Sound (g : List Int) : Prop := ∃ c, fmt g g.length 0 0 = .inl c
theorem fmt_bound {g : List Int} (ha : asc g) : ∀ (k c p c' : Nat), p ≤ g.length → fmt g k c p = .inl c' → c' ≤ c + k := by
  intro k
  induction k with
  | zero =>
    intro c p c' hp h
    injection h with h
    omega
  | succ k ih =>
    intro c p c' hp h
    unfold fmt at h
    by_cases h1 : g.length ≤ p
    · rw [if_pos h1] at h
      injection h with h
      omega
    · rw [if_neg h1] at h
      by_cases h2 : atl g p = 37
      · rw [if_pos h2] at h
        by_cases h3 : spF g p = 0
        · rw [if_pos h3] at h
          obtain ⟨_, _, _, _, _, _, _, _, _, _, _, _, q⟩ := spF_zero ha (by omega) h3
          have := ih (c + 1) (spN g p) c' q h
          omega
        · rw [if_neg h3] at h
          cases h
      · rw [if_neg h2] at h
        have := ih c (p + 1) c' (by omega) h
        omega
theorem f2_loop {g : List Int} (ha : asc g) : ∀ (k c i n : Nat) (s : zS), g.length ≤ k + i → i ≤ g.length → k < n → LN 3 s g → s.2.2 < 600000 → s.1 0 8 = zi 0 → s.1 0 9 = zi (-1) →
    (∃ c', fmt g k c i = .inl c' ∧ ∃ s', f2_49 n (zi c) (zi i) s = some (.inl (zi (c' : Nat)), s') ∧ s'.1 0 7 = zi 1 ∧ s'.1 0 8 = zi 0 ∧ s'.1 0 9 = zi (-1) ∧ fr [0, 7] [] s s') ∨
    (∃ ft e, fmt g k c i = .inr (ft, e) ∧ 0 < ft ∧ ft ≤ 7 ∧ ∃ s', f2_49 n (zi c) (zi i) s = some (.inr 1, thr s') ∧ s'.1 0 7 = s.1 0 7 ∧ s'.1 0 8 = zi ft ∧ s'.1 0 9 = zi (e : Nat) ∧ fr [0, 7] [] s s') := by
  intro k
  induction k with
  | zero =>
    intro c i n s hk hi hn hL he h8 h9
    obtain ⟨n, rfl⟩ : ∃ k, n = k + 1 := ⟨n - 1, by omega⟩
    have hg : g.length ≤ 400 := hL.2.2
    refine .inl ⟨c, rfl, setI s 0 7 (zi 1), ?_, rfl, h8, h9, fr.refl.sI (.inl rfl)⟩
    show b2_49 (f2_49 n) _ _ _ = _
    unfold b2_49
    rw [show r16 3 s = zi g.length from hL.1, if_pos (zge (by omega))]
  | succ k ih =>
    intro c i n s hk hi hn hL he h8 h9
    obtain ⟨n, rfl⟩ : ∃ k, n = k + 1 := ⟨n - 1, by omega⟩
    have hg : g.length ≤ 400 := hL.2.2
    have e0 : f2_49 (n + 1) (zi c) (zi i) s = b2_49 (f2_49 n) (zi c) (zi i) s := rfl
    rw [e0]
    unfold b2_49 fmt
    rw [show r16 3 s = zi g.length from hL.1]
    by_cases h1 : g.length ≤ i
    · rw [if_pos h1, if_pos (zge (by omega))]
      exact .inl ⟨c, rfl, setI s 0 7 (zi 1), rfl, rfl, h8, h9, fr.refl.sI (.inl rfl)⟩
    · have hr := atl_range g i
      rw [if_neg h1, if_neg (znge (by omega)), hL.at (by omega) (by omega), zb1_mk]
      by_cases h2 : atl g i = 37
      · obtain ⟨s1, a1, a2, a3⟩ := f38_eq hL ha (show i < g.length by omega)
        have hsr := spF_range g i
        have hL1 : LN 3 s1 g := hL.of (congrFun (a2.f rfl (by decide)) 1) (a2.f rfl (by decide))
        rw [if_pos h2, h2, if_neg (not_not_intro rfl), a1, zb1_mk]
        by_cases h3 : spF g i = 0
        · obtain ⟨w, f, t, q, W, pr, cv, cap, su, b1, b2, b3, b4⟩ := spF_zero ha (show i < g.length by omega) h3
          obtain ⟨d1, _⟩ := a3 _ _ _ _ _ _ _ _ _ _ b1
          have e13 : f13 (zi (spF g i)) (zi i) s1 = some (setI (setI s1 0 8 (zi 0)) 0 9 (zi (-1))) := by
            unfold f13
            rw [h3, if_neg (not_not_intro rfl)]
          have e49 : r49 (setI (setI s1 0 8 (zi 0)) 0 9 (zi (-1))) = zi ((spN g i : Nat) - 1) := by
            show (s1.1 7 0) - zi 1 = _
            rw [d1, zi_sub]
          rw [if_pos h3, e13, zb0_mk, if_pos (show (setI (setI s1 0 8 (zi 0)) 0 9 (zi (-1))).1 0 8 = zi 0 from rfl), e49]
          have emax : r264 (zi i) (zi ((spN g i : Nat) - 1)) (setI (setI s1 0 8 (zi 0)) 0 9 (zi (-1))) + zi 1 = zi (spN g i) := by
            unfold r264
            by_cases y : i < spN g i - 1
            · rw [if_pos (zlt (by omega)), zi_add]
              congr 1
              omega
            · rw [if_neg (znlt (by omega)), zi_add]
              congr 1
              omega
          rw [emax, zi_add]
          have hf1 : fr [0, 7] [] s (setI (setI s1 0 8 (zi 0)) 0 9 (zi (-1))) := ((a2.up rfl rfl).sI (.inl rfl)).sI (.inl rfl)
          rcases ih (c + 1) (spN g i) n (setI (setI s1 0 8 (zi 0)) 0 9 (zi (-1))) (by omega) b4 (by omega) hL1 (by show s1.2.2 < 600000; rw [a2.2.2]; exact he) rfl rfl with ⟨c', p1, s', p2, p3, p4, p5, p6⟩ | ⟨ft, e, p1, p2, p2', s', p3, p4, p5, p6, p7⟩
          · exact .inl ⟨c', p1, s', p2, p3, p4, p5, hf1.trans p6⟩
          · refine .inr ⟨ft, e, p1, p2, p2', s', p3, p4.trans ?_, p5, p6, hf1.trans p7⟩
            exact congrFun (a2.f (a := 0) rfl (by decide)) 7
        · have e13 : f13 (zi (spF g i)) (zi i) s1 = some (setI (setI s1 0 8 (zi (spF g i))) 0 9 (zi i)) := by
            unfold f13
            rw [if_pos (zne (by omega))]
          rw [if_neg h3, e13, zb0_mk, if_neg (show ¬ (setI (setI s1 0 8 (zi (spF g i))) 0 9 (zi i)).1 0 8 = zi 0 from zne (a := spF g i) (b := 0) (by omega)), if_pos (show (setI (setI s1 0 8 (zi (spF g i))) 0 9 (zi i)).2.2 < 600000 by show s1.2.2 < 600000; rw [a2.2.2]; exact he)]
          refine .inr ⟨_, _, rfl, by omega, by omega, _, rfl, ?_, rfl, rfl, ((a2.up rfl rfl).sI (.inl rfl)).sI (.inl rfl)⟩
          exact congrFun (a2.f (a := 0) rfl (by decide)) 7
      · rw [if_neg h2, if_pos (zne (by omega)), zi_add]
        exact ih c (i + 1) n s (by omega) (by omega) (by omega) hL he h8 h9
theorem f217_loop {g : List Int} (ha : asc g) (hg : g.length ≤ 400) : ∀ (k c i n : Nat) (s : zS), g.length ≤ k + i → i ≤ g.length → k < n → MN 34 26 s g →
    (∃ c', fmt g k c i = .inl c' ∧ ∃ s', f217_77 n (zi c) (zi i) s = some (zi (c' : Nat), s') ∧ s'.1 24 5 = zi g.length ∧ fr [] [5, 14, 15, 16, 17, 18, 19, 20, 22] s s') ∨
    (∃ ft e, fmt g k c i = .inr (ft, e) ∧ ∃ s', f217_77 n (zi c) (zi i) s = some (zi 0, s') ∧ s'.1 24 7 = zi ft ∧ s'.1 24 8 = zi (e : Nat) ∧ s'.1 24 9 = zi 2 ∧ fr [] [7, 8, 9, 14, 15, 16, 17, 18, 19, 20, 22] s s') := by
  intro k
  induction k with
  | zero =>
    intro c i n s hk hi hn hL
    obtain ⟨n, rfl⟩ : ∃ k, n = k + 1 := ⟨n - 1, by omega⟩
    refine .inl ⟨c, rfl, setI s 24 5 (zi g.length), ?_, rfl, fr.refl.sI (.inr ⟨rfl, rfl⟩)⟩
    show b217_77 (f217_77 n) _ _ _ = _
    unfold b217_77
    rw [hL.1, if_pos (zge (by omega))]
  | succ k ih =>
    intro c i n s hk hi hn hL
    obtain ⟨n, rfl⟩ : ∃ k, n = k + 1 := ⟨n - 1, by omega⟩
    have e0 : f217_77 (n + 1) (zi c) (zi i) s = b217_77 (f217_77 n) (zi c) (zi i) s := rfl
    rw [e0]
    unfold b217_77 fmt
    rw [hL.1]
    by_cases h1 : g.length ≤ i
    · rw [if_pos h1, if_pos (zge (by omega))]
      exact .inl ⟨c, rfl, _, rfl, rfl, fr.refl.sI (.inr ⟨rfl, rfl⟩)⟩
    · have hi' : i < g.length := by omega
      have hr := atl_range g i
      rw [if_neg h1, if_neg (znge (by omega)), if_pos (zi_ix (by omega) (by omega) (by omega)), zi_toNat (by omega), hL.2.get hi', ← atl_asc ha hi']
      by_cases h2 : atl g i = 37
      · obtain ⟨s1, a1, a2, a3⟩ := f199_eq hL hg ha hi'
        have hsr := spF_range g i
        have hL1 : MN 34 26 s1 g := hL.of (a2.1 24 34 rfl (fun _ => rfl)) (a2.f rfl (by decide))
        rw [if_pos h2, h2, if_pos rfl, a1, zb1_mk]
        by_cases h3 : spF g i = 0
        · obtain ⟨w, f, t, q, W, pr, cv, cap, su, b1, b2, b3, b4⟩ := spF_zero ha hi' h3
          obtain ⟨_, _, _, _, _, _, d7, _⟩ := a3 _ _ _ _ _ _ _ _ _ _ b1
          rw [if_pos h3, if_pos (zle (by omega)), d7, zi_add]
          rcases ih (c + 1) (spN g i) n s1 (by omega) b4 (by omega) hL1 with ⟨c', p1, s', p2, p3, p4⟩ | ⟨ft, e, p1, s', p3, p4, p5, p6, p7⟩
          · exact .inl ⟨c', p1, s', p2, p3, (a2.up rfl rfl).trans p4⟩
          · exact .inr ⟨ft, e, p1, s', p3, p4, p5, p6, (a2.up rfl rfl).trans p7⟩
        · rw [if_neg h3, if_neg (znle (by omega))]
          exact .inr ⟨_, _, rfl, _, rfl, rfl, rfl, rfl, (((a2.up rfl rfl).sI (.inr ⟨rfl, rfl⟩)).sI (.inr ⟨rfl, rfl⟩)).sI (.inr ⟨rfl, rfl⟩)⟩
      · rw [if_neg h2, if_neg (zne (by omega)), zi_add]
        exact ih c (i + 1) n s (by omega) (by omega) (by omega) hL
theorem isL_cpy {f h : Nat → Int32} {l : List Int} (hf : isL f l) : isL (va_cpy f h 0 0 l.length) l := by
  refine hf.congr (fun i hi => ?_)
  rw [cpy_in (by omega) (by omega)]
  congr 1
  omega
theorem min400 {m : Nat} (h : m ≤ 400) (s : zS) : r265 (zi m) (zi 400) s = zi m := if_neg (zngt (by omega))
theorem cp400 {m : Nat} (h : m ≤ 400) : mCp (zi 0) (zi 0) (zi m) 800 400 := by
  refine ⟨znlt (b := 0) (by omega), znlt (b := 0) (by omega), znlt (b := 0) (by omega), ?_, ?_⟩
  · rw [z00, zi_toNat (by omega)]
    omega
  · rw [z00, zi_toNat (by omega)]
    omega
theorem op_format (s : zS) (h : Inv Sound s) (he : s.2.2 < 600000) : opOK Sound s f249 f217 := by
  obtain ⟨⟨l, h1⟩, ⟨g0, h2⟩, ⟨o, h3⟩, h4, ⟨na, h5⟩, h6⟩ := h
  have hl8 : l.length ≤ 800 := h1.1.2.2
  by_cases hl : l.length ≤ 400
  · -- the class's state before its loop
    have e22 : f22 s = some (setI (setA (setI s 3 1 (zi l.length)) 4 (va_cpy (s.1 2) (s.1 4) 0 0 l.length)) 1 1 (zi 0)) := by
      unfold f22
      rw [h1.1.1, min400 hl, if_pos (cp400 hl), z00, zi_toNat (by omega)]
      rfl
    have e2 : f2 s = f2_49 zF (zi (0 : Nat)) (zi (0 : Nat)) (setI (setI (setI (setI (setA (setI s 3 1 (zi l.length)) 4 (va_cpy (s.1 2) (s.1 4) 0 0 l.length)) 1 1 (zi 0)) 0 7 (zi 0)) 0 8 (zi 0)) 0 9 (zi (-1))) := by
      unfold f2
      rw [show r16 1 s = zi l.length from h1.1.1, if_pos (zle (by omega)), e22, zb0_mk]
      unfold f13
      rw [if_neg (not_not_intro rfl)]
      rfl
    generalize hc : setI (setI (setI (setI (setA (setI s 3 1 (zi l.length)) 4 (va_cpy (s.1 2) (s.1 4) 0 0 l.length)) 1 1 (zi 0)) 0 7 (zi 0)) 0 8 (zi 0)) 0 9 (zi (-1)) = sc at e2
    have c3 : LN 3 sc l := by
      rw [← hc]
      exact ⟨rfl, isL_cpy h1.1.2.1, hl⟩
    have c1 : LN 1 sc [] := by
      rw [← hc]
      exact ⟨rfl, isL_nil, Nat.zero_le _⟩
    have c07 : sc.1 0 7 = zi 0 := by rw [← hc]; rfl
    have c08 : sc.1 0 8 = zi 0 := by rw [← hc]; rfl
    have c09 : sc.1 0 9 = zi (-1) := by rw [← hc]; rfl
    have cfr : fr [0, 1, 3, 4] [] s sc := by
      rw [← hc]
      exact (((((fr.refl.sI (.inl rfl)).sA rfl).sI (.inl rfl)).sI (.inl rfl)).sI (.inl rfl)).sI (.inl rfl)
    have ce : sc.2.2 < 600000 := by rw [cfr.2.2]; exact he
    -- the reference's
    have mod : ∀ sx : zS, sx.1 25 = s.1 25 → sx.1 24 = s.1 24 → sx.1 26 = s.1 26 → ∃ sm, f217 sx = f217_77 zF (zi (0 : Nat)) (zi (0 : Nat)) sm ∧ MN 34 26 sm l ∧ sm.1 24 4 = zi 0 ∧ sm.1 24 5 = zi (-1) ∧ sm.1 24 7 = zi 0 ∧ sm.1 24 8 = zi (-1) ∧ sm.1 24 9 = zi 0 ∧ fr [26] [4, 5, 7, 8, 9, 34] sx sm := by
      intro sx x25 x24 x26
      have x4 : sx.1 24 4 = zi l.length := by rw [x24]; exact h1.2.1.1
      refine ⟨setI (setI (setI (setI (setI (setA (setI sx 24 9 (zi 0)) 26 (va_cpy (sx.1 25) (sx.1 26) 0 0 l.length)) 24 34 (zi l.length)) 24 4 (zi 0)) 24 7 (zi 0)) 24 8 (zi (-1))) 24 5 (zi (-1)), ?_, ⟨rfl, ?_⟩, rfl, rfl, rfl, rfl, rfl, ?_⟩
      · unfold f217 f217_16
        rw [x4, if_pos (zle (by omega)), if_pos (zle (by omega)), if_pos (cp400 hl), z00, zi_toNat (by omega)]
        rfl
      · show isL (va_cpy (sx.1 25) (sx.1 26) 0 0 l.length) l
        rw [x25]
        exact isL_cpy h1.2.1.2
      · exact ((((((fr.refl.sI (.inr ⟨rfl, rfl⟩)).sA rfl).sI (.inr ⟨rfl, rfl⟩)).sI (.inr ⟨rfl, rfl⟩)).sI (.inr ⟨rfl, rfl⟩)).sI (.inr ⟨rfl, rfl⟩)).sI (.inr ⟨rfl, rfl⟩)
    rcases f2_loop h1.2.2 l.length 0 0 zF sc (by omega) (by omega) (by unfold zF; omega) c3 ce c08 c09 with ⟨c', p1, s', p2, p3, p4, p5, p6⟩ | ⟨ft, e, p1, p2, p2', s', p3, p4, p5, p6, p7⟩
    · -- sound
      have hcb := fmt_bound h1.2.2 l.length 0 0 c' (by omega) p1
      have fa : fr [0, 1, 3, 4, 7, 41] [] s (setK s' 41 0 (zI2L (zi c'))) := ((cfr.up rfl rfl).trans (p6.up rfl rfl)).sK rfl
      obtain ⟨sm, m1, m2, m3, m4, m5, m6, m7, m8⟩ := mod (setK s' 41 0 (zI2L (zi c'))) (fa.f rfl (by decide)) (by funext k; exact fa.1 24 k rfl (fun _ => rfl)) (fa.f rfl (by decide))
      rcases f217_loop h1.2.2 hl l.length 0 0 zF sm (by omega) (by omega) (by unfold zF; omega) m2 with ⟨c2, q1, s2, q2, q3, q4⟩ | ⟨ft, e, q1, _⟩
      · have hcc : c2 = c' := by
          rw [q1] at p1
          injection p1
        subst hcc
        have fb : fr [26] [4, 5, 7, 8, 9, 14, 15, 16, 17, 18, 19, 20, 22, 34] (setK s' 41 0 (zI2L (zi c2))) s2 := (m8.up rfl rfl).trans (q4.up rfl rfl)
        have fall : fr [0, 1, 3, 4, 7, 41, 26] [4, 5, 7, 8, 9, 14, 15, 16, 17, 18, 19, 20, 22, 34] s s2 := (fa.up rfl rfl).trans (fb.up rfl rfl)
        have x7 : s2.1 24 7 = zi 0 := (q4.1 24 7 rfl (fun _ => rfl)).trans m5
        have x8 : s2.1 24 8 = zi (-1) := (q4.1 24 8 rfl (fun _ => rfl)).trans m6
        have x9 : s2.1 24 9 = zi 0 := (q4.1 24 9 rfl (fun _ => rfl)).trans m7
        have y0 : s2.1 0 = s'.1 0 := fb.f (a := 0) rfl (by decide)
        refine ⟨zi 0, _, _, s2, ?_, m1.trans q2, x9, fun _ => ?_, ⟨⟨[], ?_, ⟨?_, isL_nil⟩, fun v hv => by cases hv⟩, ⟨l, ?_, ⟨?_, ?_⟩, h1.2.2, .inl ⟨?_, q3, c2, p1⟩⟩, ⟨o, h3.fr fall rfl rfl rfl rfl rfl⟩, ⟨?_, ?_⟩, ⟨na, h5.fr fall rfl rfl rfl rfl rfl rfl rfl rfl rfl rfl⟩, h6.fr fall rfl rfl rfl rfl rfl rfl⟩, ?_⟩
        · unfold f249
          rw [e2, p2, zbT_l, if_pos ix01, z00]
        · rw [fb.2.1 41 0 rfl]
          rfl
        · have w1 : s2.1 1 = s'.1 1 := fb.f (a := 1) rfl (by decide)
          have w2 : s2.1 2 = s'.1 2 := fb.f (a := 2) rfl (by decide)
          exact (c1.of (s' := s') (congrFun (p6.f rfl (by decide)) 1) (p6.f rfl (by decide))).of (congrFun w1 1) w2
        · exact (q4.1 24 4 rfl (fun _ => rfl)).trans m3
        · have w1 : s2.1 3 = s'.1 3 := fb.f (a := 3) rfl (by decide)
          have w2 : s2.1 4 = s'.1 4 := fb.f (a := 4) rfl (by decide)
          exact (c3.of (s' := s') (congrFun (p6.f rfl (by decide)) 1) (p6.f rfl (by decide))).of (congrFun w1 1) w2
        · exact (q4.1 24 34 rfl (fun _ => rfl)).trans m2.1
        · rw [q4.f (a := 26) rfl (by decide)]
          exact m2.2
        · rw [y0]
          exact p3
        · rw [y0, x7]
          exact p4
        · rw [y0, x8]
          exact p5
        · rw [fall.2.2]
          omega
      · rw [q1] at p1
        cases p1
    · -- a fault
      have fa : fr [0, 1, 3, 4, 7] [] s s' := (cfr.up rfl rfl).trans (p7.up rfl rfl)
      obtain ⟨sm, m1, m2, m3, m4, m5, m6, m7, m8⟩ := mod (thr s') (show s'.1 25 = s.1 25 from fa.f rfl (by decide)) (by funext k; exact fa.1 24 k rfl (fun _ => rfl)) (show s'.1 26 = s.1 26 from fa.f rfl (by decide))
      rcases f217_loop h1.2.2 hl l.length 0 0 zF sm (by omega) (by omega) (by unfold zF; omega) m2 with ⟨c2, q1, _⟩ | ⟨ft2, e2', q1, s2, q3, q4, q5, q6, q7⟩
      · rw [q1] at p1
        cases p1
      · have hfe : ft2 = ft ∧ e2' = e := by
          rw [q1] at p1
          injection p1 with p1
          injection p1 with p1 p1'
          exact ⟨p1, p1'⟩
        obtain ⟨rfl, rfl⟩ := hfe
        have fb : fr [26] [4, 5, 7, 8, 9, 14, 15, 16, 17, 18, 19, 20, 22, 34] (thr s') s2 := (m8.up rfl rfl).trans (q7.up rfl rfl)
        have fc : fr [0, 1, 3, 4, 7] [] (thr s) (thr s') := ⟨fa.1, fa.2.1, by show s'.2.2 + 1 = s.2.2 + 1; rw [fa.2.2]⟩
        have fall : fr [0, 1, 3, 4, 7, 26] [4, 5, 7, 8, 9, 14, 15, 16, 17, 18, 19, 20, 22, 34] (thr s) s2 := (fc.up rfl rfl).trans (fb.up rfl rfl)
        have y0 : s2.1 0 = s'.1 0 := fb.f (a := 0) rfl (by decide)
        have h3' : R3 (thr s) o := h3
        have h5' : R5 (thr s) na := h5
        have h6' : R6 (thr s) := h6
        refine ⟨zi 2, thr s', zi 0, s2, ?_, m1.trans q3, q6, fun q => absurd q (zne (by omega)), ⟨⟨[], ?_, ⟨?_, isL_nil⟩, fun v hv => by cases hv⟩, ⟨l, ?_, ⟨?_, ?_⟩, h1.2.2, .inr ⟨?_, ?_⟩⟩, ⟨o, h3'.fr fall rfl rfl rfl rfl rfl⟩, ⟨?_, ?_⟩, ⟨na, h5'.fr fall rfl rfl rfl rfl rfl rfl rfl rfl rfl rfl⟩, h6'.fr fall rfl rfl rfl rfl rfl rfl⟩, ?_⟩
        · unfold f249
          rw [e2, p3, zbT_r]
          rfl
        · have w1 : s2.1 1 = s'.1 1 := fb.f (a := 1) rfl (by decide)
          have w2 : s2.1 2 = s'.1 2 := fb.f (a := 2) rfl (by decide)
          exact (c1.of (s' := s') (congrFun (p7.f rfl (by decide)) 1) (p7.f rfl (by decide))).of (congrFun w1 1) w2
        · exact (q7.1 24 4 rfl (fun _ => rfl)).trans m3
        · have w1 : s2.1 3 = s'.1 3 := fb.f (a := 3) rfl (by decide)
          have w2 : s2.1 4 = s'.1 4 := fb.f (a := 4) rfl (by decide)
          exact (c3.of (s' := s') (congrFun (p7.f rfl (by decide)) 1) (p7.f rfl (by decide))).of (congrFun w1 1) w2
        · exact (q7.1 24 34 rfl (fun _ => rfl)).trans m2.1
        · rw [q7.f (a := 26) rfl (by decide)]
          exact m2.2
        · rw [y0, p4]
          exact c07
        · exact (q7.1 24 5 rfl (fun _ => rfl)).trans m4
        · rw [y0, q4]
          exact p5
        · rw [y0, q5]
          exact p6
        · rw [fall.2.2]
          exact Nat.le_refl _
  · refine ⟨zi 1, thr s, zi 0, setI (thr s) 24 9 (zi 1), ?_, ?_, rfl, fun q => absurd q (zne (by omega)), ⟨⟨l, h1⟩, ⟨g0, h2⟩, ⟨o, h3⟩, h4, ⟨na, h5⟩, h6⟩, Nat.le_refl _⟩
    · have e2 : f2 s = some (.inr 0, thr s) := by
        unfold f2
        rw [show r16 1 s = zi l.length from h1.1.1, if_neg (znle (by omega)), if_pos he]
      unfold f249
      rw [e2, zbT_r]
      rfl
    · unfold f217 f217_16
      rw [show (thr s).1 24 4 = zi l.length from h1.2.1.1, if_neg (znle (by omega)), if_neg (znle (by omega))]
