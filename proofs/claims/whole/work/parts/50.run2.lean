/-! run: the whole format -/
theorem at26 {s : zS} {g : List Int} (h : MN 34 26 s g) (ha : asc g) (hg : g.length ≤ 400) {p : Nat} (hp : p < g.length) : s.1 26 (zi (p : Int)).toNatClampNeg = zi (atl g p) := by
  rw [zi_toNat (by omega), h.2.get hp, atl_asc ha hp]
theorem run_both (hC : ConvOK) {g : List Int} (ha : asc g) (hg : g.length ≤ 400) {na : Nat} {K C M : Nat → Int} {T : Nat → List Int} (hA : argsOK na K C M T) :
    ∀ (k c p c' : Nat) (o : List Int) (ord lat : Int), g.length ≤ k + p → p ≤ g.length → fmt g k c p = .inl c' → byt o → o.length ≤ 6000 → 0 ≤ ord → ord ≤ p → 0 ≤ lat → lat ≤ 24 →
    ∃ res : List Int ⊕ (Int × Nat), (∀ (s : zS) (n : Nat), stC s g o ord lat na K C T → s.1 0 8 = zi 0 → s.1 0 9 = zi (-1) → s.2.2 < 600000 → k < n →
        ((∀ o', res = .inl o' → byt o' ∧ ∃ s', f7_39 n (zi p) s = some (.inl (zi o'.length), s') ∧ LN 5 s' o' ∧ s'.1 0 8 = zi 0 ∧ s'.1 0 9 = zi (-1) ∧ s'.1 0 7 = s.1 0 7 ∧ fr (0 :: rA) [] s s') ∧
         (∀ ft e, res = .inr (ft, e) → ∃ s', f7_39 n (zi p) s = some (.inr 1, thr s') ∧ LN 5 s' [] ∧ s'.1 0 8 = zi ft ∧ s'.1 0 9 = zi (e : Nat) ∧ s'.1 0 7 = s.1 0 7 ∧ fr (0 :: rA) [] s s'))) ∧
      (∀ (s : zS) (n : Nat), stM s g o ord lat na K M T → s.1 24 5 = zi g.length → k < n →
        ((∀ o', res = .inl o' → ∃ s', f223_52 n (zi p) s = some (zi o'.length, s') ∧ MN 6 27 s' o' ∧ R6 s' ∧ fr rMA rMB s s') ∧
         (∀ ft e, res = .inr (ft, e) → ∃ s', f223_52 n (zi p) s = some (zi 0, s') ∧ MN 6 27 s' [] ∧ s'.1 24 7 = zi ft ∧ s'.1 24 8 = zi (e : Nat) ∧ s'.1 24 9 = zi 2 ∧ R6 s' ∧ fr rMA (7 :: 8 :: 9 :: rMB) s s'))) := by
  intro k
  induction k with
  | zero =>
    intro c p c' o ord lat hk hp hf hob ho ho1 ho2 hl1 hl2
    have hpg : p = g.length := by omega
    subst hpg
    refine ⟨.inl o, fun s n hs h8 h9 he hn => ⟨fun o' ho' => ?_, fun ft e h => by cases h⟩, fun s n hs h5 hn => ⟨fun o' ho' => ?_, fun ft e h => by cases h⟩⟩
    · injection ho' with ho'
      subst ho'
      obtain ⟨n, rfl⟩ : ∃ k, n = k + 1 := ⟨n - 1, by omega⟩
      refine ⟨hob, s, ?_, hs.2.1, h8, h9, rfl, fr.refl⟩
      show b7_39 (f7_39 n) _ _ = _
      unfold b7_39
      rw [show r16 3 s = zi g.length from hs.1.1, if_pos (zge (by omega)), show r16 5 s = zi o.length from hs.2.1.1]
    · injection ho' with ho'
      subst ho'
      obtain ⟨n, rfl⟩ : ∃ k, n = k + 1 := ⟨n - 1, by omega⟩
      refine ⟨s, ?_, hs.2.1, hs.2.2.2.2.2, fr.refl⟩
      show b223_52 (f223_52 n) _ _ = _
      unfold b223_52
      rw [h5, if_pos (zge (by omega)), hs.2.1.1]
  | succ k ih =>
    intro c p c' o ord lat hk hp hf hob ho ho1 ho2 hl1 hl2
    unfold fmt at hf
    by_cases h1 : g.length ≤ p
    · have hpg : p = g.length := by omega
      subst hpg
      refine ⟨.inl o, fun s n hs h8 h9 he hn => ⟨fun o' ho' => ?_, fun ft e h => by cases h⟩, fun s n hs h5 hn => ⟨fun o' ho' => ?_, fun ft e h => by cases h⟩⟩
      · injection ho' with ho'
        subst ho'
        obtain ⟨n, rfl⟩ : ∃ k, n = k + 1 := ⟨n - 1, by omega⟩
        refine ⟨hob, s, ?_, hs.2.1, h8, h9, rfl, fr.refl⟩
        show b7_39 (f7_39 n) _ _ = _
        unfold b7_39
        rw [show r16 3 s = zi g.length from hs.1.1, if_pos (zge (by omega)), show r16 5 s = zi o.length from hs.2.1.1]
      · injection ho' with ho'
        subst ho'
        obtain ⟨n, rfl⟩ : ∃ k, n = k + 1 := ⟨n - 1, by omega⟩
        refine ⟨s, ?_, hs.2.1, hs.2.2.2.2.2, fr.refl⟩
        show b223_52 (f223_52 n) _ _ = _
        unfold b223_52
        rw [h5, if_pos (zge (by omega)), hs.2.1.1]
    · have hpl : p < g.length := by omega
      have hr := atl_asc_range ha p
      have hch := ha _ (List.getElem_mem hpl)
      rw [← atl_asc ha hpl] at hch
      rw [if_neg h1] at hf
      by_cases h2 : atl g p = 37
      · -- a spec
        rw [if_pos h2] at hf
        by_cases h3 : spF g p = 0
        · rw [if_pos h3] at hf
          obtain ⟨_, _, _, _, _, _, _, _, _, _, _, e3, e4⟩ := spF_zero ha hpl h3
          obtain ⟨ft, o1, ord', lat', f1, f2, f3, f8, f4, f5, f6, f7, hCl, hMo⟩ := press_both hC ha hg hpl h3 hA hob ho (ord := ord) (lat := lat) ⟨ho1, by omega⟩ ⟨hl1, hl2⟩
          by_cases hft : ft = 0
          · -- sound: on with the rest
            subst hft
            have ho1l := f8 rfl
            obtain ⟨res, rC, rM⟩ := ih (c + 1) (spN g p) c' o1 ord' lat' (by omega) e4 hf f3 ho1l f4 (by omega) f6 f7
            refine ⟨res, fun s n hs h8 h9 he hn => ?_, fun s n hs h5 hn => ?_⟩
            · obtain ⟨n, rfl⟩ : ∃ k, n = k + 1 := ⟨n - 1, by omega⟩
              obtain ⟨s1, s2, a1, a2, a3, a4, a5⟩ := hCl s hs
              have hst := a5 rfl
              have e0 : f7_39 (n + 1) (zi p) s = f7_39 n (zi (spN g p)) (setI (setI s2 0 8 (zi 0)) 0 9 (zi (-1))) := by
                show b7_39 (f7_39 n) _ _ = _
                unfold b7_39 f7_123
                rw [show r16 3 s = zi g.length from hs.1.1, if_neg (znge (by omega)), hs.1.at (by omega) (by omega), zb1_mk, h2, if_pos rfl, a1, zb1_mk, a2, zb1_mk]
                have e13 : f13 (zi 0) (zi p) s2 = some (setI (setI s2 0 8 (zi 0)) 0 9 (zi (-1))) := by
                  unfold f13
                  rw [if_neg (not_not_intro rfl)]
                have e49 : r49 (setI (setI s2 0 8 (zi 0)) 0 9 (zi (-1))) = zi ((spN g p : Nat) - 1) := by
                  show (s2.1 7 0) - zi 1 = _
                  rw [a4, zi_sub]
                rw [e13, zb0_mk, if_pos (show (setI (setI s2 0 8 (zi 0)) 0 9 (zi (-1))).1 0 8 = zi 0 from rfl), e49]
                have emax : r264 (zi p) (zi ((spN g p : Nat) - 1)) (setI (setI s2 0 8 (zi 0)) 0 9 (zi (-1))) + zi 1 = zi (spN g p) := by
                  unfold r264
                  by_cases y : p < spN g p - 1
                  · rw [if_pos (zlt (by omega)), zi_add]
                    congr 1
                    omega
                  · rw [if_neg (znlt (by omega)), zi_add]
                    congr 1
                    omega
                rw [emax]
              have hf2 : fr (0 :: rA) [] s (setI (setI s2 0 8 (zi 0)) 0 9 (zi (-1))) := ((a3.up rfl rfl).sI (.inl rfl)).sI (.inl rfl)
              have h07 : (setI (setI s2 0 8 (zi 0)) 0 9 (zi (-1))).1 0 7 = s.1 0 7 := congrFun (a3.f (a := 0) rfl (by decide)) 7
              obtain ⟨g1, g2⟩ := rC (setI (setI s2 0 8 (zi 0)) 0 9 (zi (-1))) n hst rfl rfl (by show s2.2.2 < 600000; rw [a3.2.2]; exact he) (by omega)
              rw [e0]
              refine ⟨fun o' h => ?_, fun ft e h => ?_⟩
              · obtain ⟨x0, s', x1, x2, x3, x4, x5, x6⟩ := g1 o' h
                exact ⟨x0, s', x1, x2, x3, x4, x5.trans h07, hf2.trans x6⟩
              · obtain ⟨s', x1, x2, x3, x4, x5, x6⟩ := g2 ft e h
                exact ⟨s', x1, x2, x3, x4, x5.trans h07, hf2.trans x6⟩
            · obtain ⟨n, rfl⟩ : ∃ k, n = k + 1 := ⟨n - 1, by omega⟩
              obtain ⟨s1, s2, a1, a2, a3, a4, a6, a5⟩ := hMo s hs
              have hst := a5 rfl
              have e0 : f223_52 (n + 1) (zi p) s = f223_52 n (zi (spN g p)) s2 := by
                show b223_52 (f223_52 n) _ _ = _
                unfold b223_52 f223_135
                rw [h5, if_neg (znge (by omega)), if_pos (zi_ix (by omega) (by omega) (by omega)), at26 hs.1 ha hg hpl, h2, if_neg (not_not_intro rfl), a1, zb1_mk, a2, zb1_mk, a4, if_neg (not_not_intro rfl)]
              obtain ⟨g1, g2⟩ := rM s2 n hst ((a3.1 24 5 rfl (fun _ => rfl)).trans h5) (by omega)
              rw [e0]
              refine ⟨fun o' h => ?_, fun ft e h => ?_⟩
              · obtain ⟨s', x1, x2, x3, x4⟩ := g1 o' h
                exact ⟨s', x1, x2, x3, a3.trans x4⟩
              · obtain ⟨s', x1, x2, x3, x4, x5, x6, x7⟩ := g2 ft e h
                exact ⟨s', x1, x2, x3, x4, x5, x6, (a3.up rfl rfl).trans x7⟩
          · refine ⟨.inr (ft, p), fun s n hs h8 h9 he hn => ⟨(fun o' h => by cases h), fun ft' e h => ?_⟩, fun s n hs h5 hn => ⟨(fun o' h => by cases h), fun ft' e h => ?_⟩⟩
            · injection h with h
              injection h with hh1 hh2
              subst hh1 hh2
              obtain ⟨n, rfl⟩ : ∃ k, n = k + 1 := ⟨n - 1, by omega⟩
              obtain ⟨s1, s2, a1, a2, a3, a4, a5⟩ := hCl s hs
              refine ⟨setI (setI (setI s2 0 8 (zi ft)) 0 9 (zi p)) 5 1 (zi 0), ?_, LN.empty, rfl, rfl, congrFun (a3.f (a := 0) rfl (by decide)) 7, (((a3.up rfl rfl).sI (.inl rfl)).sI (.inl rfl)).sI (.inl rfl)⟩
              show b7_39 (f7_39 n) _ _ = _
              unfold b7_39 f7_123
              rw [show r16 3 s = zi g.length from hs.1.1, if_neg (znge (by omega)), hs.1.at (by omega) (by omega), zb1_mk, h2, if_pos rfl, a1, zb1_mk, a2, zb1_mk]
              have e13 : f13 (zi ft) (zi p) s2 = some (setI (setI s2 0 8 (zi ft)) 0 9 (zi p)) := by
                unfold f13
                rw [if_pos (zne (by omega))]
              rw [e13, zb0_mk, if_neg (show ¬ (setI (setI s2 0 8 (zi ft)) 0 9 (zi p)).1 0 8 = zi 0 from zne (a := ft) (b := 0) (by omega)), show f21 5 (setI (setI s2 0 8 (zi ft)) 0 9 (zi p)) = some (setI (setI (setI s2 0 8 (zi ft)) 0 9 (zi p)) 5 1 (zi 0)) from rfl, zb0_mk, if_pos (show (setI (setI (setI s2 0 8 (zi ft)) 0 9 (zi p)) 5 1 (zi 0)).2.2 < 600000 by show s2.2.2 < 600000; rw [a3.2.2]; exact he)]
            · injection h with h
              injection h with hh1 hh2
              subst hh1 hh2
              obtain ⟨n, rfl⟩ : ∃ k, n = k + 1 := ⟨n - 1, by omega⟩
              obtain ⟨s1, s2, a1, a2, a3, a4, a6, a5⟩ := hMo s hs
              refine ⟨setI (setI (setI (setI s2 24 6 (zi 0)) 24 7 (zi ft)) 24 8 (zi p)) 24 9 (zi 2), ?_, ⟨rfl, isL_nil⟩, rfl, rfl, rfl, a6, ((((a3.up rfl rfl).sI (.inr ⟨rfl, rfl⟩)).sI (.inr ⟨rfl, rfl⟩)).sI (.inr ⟨rfl, rfl⟩)).sI (.inr ⟨rfl, rfl⟩)⟩
              show b223_52 (f223_52 n) _ _ = _
              unfold b223_52 f223_135
              rw [h5, if_neg (znge (by omega)), if_pos (zi_ix (by omega) (by omega) (by omega)), at26 hs.1 ha hg hpl, h2, if_neg (not_not_intro rfl), a1, zb1_mk, a2, zb1_mk, a4, if_pos (zne (by omega))]
        · rw [if_neg h3] at hf
          cases hf
      · -- a byte that stands for itself
        rw [if_neg h2] at hf
        by_cases h6 : o.length = 6000
        · refine ⟨.inr (11, p), fun s n hs h8 h9 he hn => ⟨(fun o' h => by cases h), fun ft' e h => ?_⟩, fun s n hs h5 hn => ⟨(fun o' h => by cases h), fun ft' e h => ?_⟩⟩
          · injection h with h
            injection h with hh1 hh2
            subst hh1 hh2
            obtain ⟨n, rfl⟩ : ∃ k, n = k + 1 := ⟨n - 1, by omega⟩
            refine ⟨setI (setI (setI s 0 8 (zi 11)) 0 9 (zi p)) 5 1 (zi 0), ?_, LN.empty, rfl, rfl, rfl, ((fr.refl.sI (.inl rfl)).sI (.inl rfl)).sI (.inl rfl)⟩
            show b7_39 (f7_39 n) _ _ = _
            unfold b7_39 f7_123
            have e59 : f59 (zi (atl g p)) s = some (zi 11, s) := by
              unfold f59 r18
              rw [hs.2.1.1, zi_sub]
              show (if ¬ (if zi 1 > zi ((6000 : Nat) - (o.length : Int)) then zi 0 else zi 1) = zi 0 then _ else _) = _
              rw [if_pos (show zi 1 > zi ((6000 : Nat) - (o.length : Int)) from zgt (by omega)), if_neg (not_not_intro rfl)]
            have e13 : f13 (zi 11) (zi p) s = some (setI (setI s 0 8 (zi 11)) 0 9 (zi p)) := by
              unfold f13
              rw [if_pos (zne (by omega))]
            rw [show r16 3 s = zi g.length from hs.1.1, if_neg (znge (by omega)), hs.1.at (by omega) (by omega), zb1_mk, if_neg (zne (by omega)), hs.1.at (by omega) (by omega), zb1_mk, e59, zb1_mk, e13, zb0_mk, if_neg (show ¬ (setI (setI s 0 8 (zi 11)) 0 9 (zi p)).1 0 8 = zi 0 from zne (a := 11) (b := 0) (by omega)), show f21 5 (setI (setI s 0 8 (zi 11)) 0 9 (zi p)) = some (setI (setI (setI s 0 8 (zi 11)) 0 9 (zi p)) 5 1 (zi 0)) from rfl, zb0_mk, if_pos (show (setI (setI (setI s 0 8 (zi 11)) 0 9 (zi p)) 5 1 (zi 0)).2.2 < 600000 from he)]
          · injection h with h
            injection h with hh1 hh2
            subst hh1 hh2
            obtain ⟨n, rfl⟩ : ∃ k, n = k + 1 := ⟨n - 1, by omega⟩
            refine ⟨setI (setI (setI (setI s 24 6 (zi 0)) 24 7 (zi 11)) 24 8 (zi p)) 24 9 (zi 2), ?_, ⟨rfl, isL_nil⟩, rfl, rfl, rfl, hs.2.2.2.2.2, (((fr.refl.sI (.inr ⟨rfl, rfl⟩)).sI (.inr ⟨rfl, rfl⟩)).sI (.inr ⟨rfl, rfl⟩)).sI (.inr ⟨rfl, rfl⟩)⟩
            show b223_52 (f223_52 n) _ _ = _
            unfold b223_52 f223_135
            rw [h5, if_neg (znge (by omega)), if_pos (zi_ix (by omega) (by omega) (by omega)), at26 hs.1 ha hg hpl, if_pos (zne (by omega)), hs.2.1.1, if_neg (not_not_intro (zeq (by omega))), if_pos (zne (by omega))]
        · have hol : o.length < 6000 := by omega
          have hob' : byt (o ++ [atl g p]) := hob.append (byt_one (by omega))
          obtain ⟨res, rC, rM⟩ := ih c (p + 1) c' (o ++ [atl g p]) ord lat (by omega) (by omega) hf hob' (by rw [List.length_append]; show o.length + 1 ≤ 6000; omega) ho1 (by omega) hl1 hl2
          refine ⟨res, fun s n hs h8 h9 he hn => ?_, fun s n hs h5 hn => ?_⟩
          · obtain ⟨n, rfl⟩ : ∃ k, n = k + 1 := ⟨n - 1, by omega⟩
            obtain ⟨s1, a1, a2, a3⟩ := hs.2.1.add (show o.length < zLen 5 from hol) (atl g p)
            rw [bmod_id (by omega) hch.2] at a2
            have e59 : f59 (zi (atl g p)) s = some (zi 0, s1) := by
              unfold f59 r18
              rw [hs.2.1.1, zi_sub]
              show (if ¬ (if zi 1 > zi ((6000 : Nat) - (o.length : Int)) then zi 0 else zi 1) = zi 0 then _ else _) = _
              rw [if_neg (show ¬ zi 1 > zi ((6000 : Nat) - (o.length : Int)) from zngt (by omega)), if_pos (zne (by omega)), a1]
              rfl
            have e13 : f13 (zi 0) (zi p) s1 = some (setI (setI s1 0 8 (zi 0)) 0 9 (zi (-1))) := by
              unfold f13
              rw [if_neg (not_not_intro rfl)]
            have e0 : f7_39 (n + 1) (zi p) s = f7_39 n (zi (p + 1 : Nat)) (setI (setI s1 0 8 (zi 0)) 0 9 (zi (-1))) := by
              show b7_39 (f7_39 n) _ _ = _
              unfold b7_39 f7_123
              rw [show r16 3 s = zi g.length from hs.1.1, if_neg (znge (by omega)), hs.1.at (by omega) (by omega), zb1_mk, if_neg (zne (by omega)), hs.1.at (by omega) (by omega), zb1_mk, e59, zb1_mk, e13, zb0_mk, if_pos (show (setI (setI s1 0 8 (zi 0)) 0 9 (zi (-1))).1 0 8 = zi 0 from rfl), zi_add]
              rfl
            have a3' : fr (0 :: rA) [] s s1 := a3.up rfl rfl
            have hac : argC s1 na K C T := argC.fr a3 hs.2.2.2.2 rfl rfl rfl rfl
            have hst : stC (setI (setI s1 0 8 (zi 0)) 0 9 (zi (-1))) g (o ++ [atl g p]) ord lat na K C T := ⟨hs.1.of (congrFun (a3.f (a := 3) rfl (by decide)) 1) (a3.f (a := 4) rfl (by decide)), a2, (congrFun (a3.f (a := 12) rfl (by decide)) 6).trans hs.2.2.1, (congrFun (a3.f (a := 12) rfl (by decide)) 7).trans hs.2.2.2.1, hac⟩
            have h07 : (setI (setI s1 0 8 (zi 0)) 0 9 (zi (-1))).1 0 7 = s.1 0 7 := congrFun (a3.f (a := 0) rfl (by decide)) 7
            have hf2 : fr (0 :: rA) [] s (setI (setI s1 0 8 (zi 0)) 0 9 (zi (-1))) := (a3'.sI (.inl rfl)).sI (.inl rfl)
            obtain ⟨g1, g2⟩ := rC (setI (setI s1 0 8 (zi 0)) 0 9 (zi (-1))) n hst rfl rfl (by show s1.2.2 < 600000; rw [a3.2.2]; exact he) (by omega)
            rw [e0]
            refine ⟨fun o' h => ?_, fun ft e h => ?_⟩
            · obtain ⟨x0, s', x1, x2, x3, x4, x5, x6⟩ := g1 o' h
              exact ⟨x0, s', x1, x2, x3, x4, x5.trans h07, hf2.trans x6⟩
            · obtain ⟨s', x1, x2, x3, x4, x5, x6⟩ := g2 ft e h
              exact ⟨s', x1, x2, x3, x4, x5.trans h07, hf2.trans x6⟩
          · obtain ⟨n, rfl⟩ : ∃ k, n = k + 1 := ⟨n - 1, by omega⟩
            have hst : stM (setB (setI s 24 6 (zi (o.length + 1 : Nat))) 27 o.length (zi (atl g p))) g (o ++ [atl g p]) ord lat na K M T := ⟨hs.1, MO.add hs.2.1 (by omega) rfl, hs.2.2.1, hs.2.2.2.1, hs.2.2.2.2.1, hs.2.2.2.2.2⟩
            have e0 : f223_52 (n + 1) (zi p) s = f223_52 n (zi (p + 1 : Nat)) (setB (setI s 24 6 (zi (o.length + 1 : Nat))) 27 o.length (zi (atl g p))) := by
              show b223_52 (f223_52 n) _ _ = _
              unfold b223_52 f223_135
              rw [h5, if_neg (znge (by omega)), if_pos (zi_ix (by omega) (by omega) (by omega)), at26 hs.1 ha hg hpl, if_pos (zne (by omega)), hs.2.1.1, if_pos (zne (by omega)), if_pos (zi_ix (by omega) (by omega) (by omega)), if_pos (zi_ix (by omega) (by omega) (by omega)), if_neg (not_not_intro rfl), zi_add, zi_add, zi_toNat (by omega), zI2B_id (by omega) (by omega)]
              rfl
            obtain ⟨g1, g2⟩ := rM (setB (setI s 24 6 (zi (o.length + 1 : Nat))) 27 o.length (zi (atl g p))) n hst h5 (by omega)
            have hf2 : fr rMA rMB s (setB (setI s 24 6 (zi (o.length + 1 : Nat))) 27 o.length (zi (atl g p))) := (fr.refl.sI (.inr ⟨rfl, rfl⟩)).sB rfl
            rw [e0]
            refine ⟨fun o' h => ?_, fun ft e h => ?_⟩
            · obtain ⟨s', x1, x2, x3, x4⟩ := g1 o' h
              exact ⟨s', x1, x2, x3, hf2.trans x4⟩
            · obtain ⟨s', x1, x2, x3, x4, x5, x6, x7⟩ := g2 ft e h
              exact ⟨s', x1, x2, x3, x4, x5, x6, (hf2.up rfl rfl).trans x7⟩
theorem op_run (hC : ConvOK) (s : zS) (h : Inv Sound s) (he : s.2.2 < 600000) : opOK Sound s f253 f223 := by
  obtain ⟨⟨l, h1⟩, ⟨g, h2⟩, ⟨o, h3⟩, h4, ⟨na, h5⟩, h6⟩ := h
  obtain ⟨g1, g2, g3, g4⟩ := h2
  have hg : g.length ≤ 400 := g1.2.2
  rcases g4 with ⟨k1, k2, c, k3⟩ | ⟨k1, k2⟩
  · obtain ⟨K, C, M, T, hA, hAC, hAM⟩ := h5.args
    obtain ⟨res, rC, rM⟩ := run_both hC g3 hg hA g.length 0 0 c [] 0 0 (by omega) (by omega) k3 (fun v hv => by cases hv) (by show 0 ≤ 6000; omega) (by omega) (by omega) (by omega) (by omega)
    -- the class
    have e7 : f7 s = f7_39 zF (zi (0 : Nat)) (setI (setI (setI (setI (setI s 5 1 (zi 0)) 12 6 (zi 0)) 12 7 (zi 0)) 0 8 (zi 0)) 0 9 (zi (-1))) := by
      unfold f7
      rw [k1, if_pos (zne (by omega)), show f21 5 s = some (setI s 5 1 (zi 0)) from rfl, zb0_mk, show f58 (setI s 5 1 (zi 0)) = some (setI (setI (setI s 5 1 (zi 0)) 12 6 (zi 0)) 12 7 (zi 0)) from rfl, zb0_mk]
      unfold f13
      rw [if_neg (not_not_intro rfl)]
      rfl
    generalize hsc : setI (setI (setI (setI (setI s 5 1 (zi 0)) 12 6 (zi 0)) 12 7 (zi 0)) 0 8 (zi 0)) 0 9 (zi (-1)) = sc at e7
    have cfr : fr [0, 5, 12] [] s sc := by
      rw [← hsc]
      exact ((((fr.refl.sI (.inl rfl)).sI (.inl rfl)).sI (.inl rfl)).sI (.inl rfl)).sI (.inl rfl)
    have cst : stC sc g [] 0 0 na K C T := by
      refine ⟨g1.of (congrFun (cfr.f rfl (by decide)) 1) (cfr.f rfl (by decide)), ?_, ?_, ?_, hAC.fr cfr rfl rfl rfl rfl⟩
      · rw [← hsc]
        exact ⟨rfl, isL_nil, Nat.zero_le _⟩
      · rw [← hsc]
        rfl
      · rw [← hsc]
        rfl
    have c07 : sc.1 0 7 = zi 1 := by rw [← hsc]; exact k1
    have c08 : sc.1 0 8 = zi 0 := by rw [← hsc]; rfl
    have c09 : sc.1 0 9 = zi (-1) := by rw [← hsc]; rfl
    obtain ⟨rC1, rC2⟩ := rC sc zF cst c08 c09 (by rw [cfr.2.2]; exact he) (by unfold zF; omega)
    -- the reference, from any state the class leaves
    have mod : ∀ sx : zS, fr (0 :: rA ++ [41]) [] (thr s) sx ∨ fr (0 :: rA ++ [41]) [] s sx → ∃ sm, f223 sx = f223_52 zF (zi (0 : Nat)) sm ∧ stM sm g [] 0 0 na K M T ∧ sm.1 24 5 = zi g.length ∧ sm.1 24 7 = zi 0 ∧ sm.1 24 8 = zi (-1) ∧ sm.1 24 9 = zi 0 ∧ fr [] [6, 7, 8, 9, 36, 37] sx sm := by
      intro sx hx
      have q24 : sx.1 24 = s.1 24 := by
        rcases hx with hx | hx
        · funext k
          exact hx.1 24 k rfl (fun _ => rfl)
        · funext k
          exact hx.1 24 k rfl (fun _ => rfl)
      have q26 : sx.1 26 = s.1 26 := by
        rcases hx with hx | hx
        · exact hx.f (a := 26) rfl (by decide)
        · exact hx.f (a := 26) rfl (by decide)
      have qA : argM sx na K M T := by
        rcases hx with hx | hx
        · exact argM.fr hx (show argM (thr s) na K M T from hAM) rfl rfl rfl rfl rfl rfl
        · exact hAM.fr hx rfl rfl rfl rfl rfl rfl
      have q6 : R6 sx := by
        rcases hx with hx | hx
        · exact R6.fr hx (show R6 (thr s) from h6) rfl rfl rfl rfl rfl rfl
        · exact h6.fr hx rfl rfl rfl rfl rfl rfl
      have q5 : sx.1 24 5 = zi g.length := by rw [q24]; exact k2
      refine ⟨setI (setI (setI (setI (setI (setI sx 24 9 (zi 0)) 24 6 (zi 0)) 24 7 (zi 0)) 24 8 (zi (-1))) 24 36 (zi 0)) 24 37 (zi (-1)), ?_, ⟨⟨?_, ?_⟩, ⟨rfl, isL_nil⟩, rfl, rfl, qA, q6⟩, q5, rfl, rfl, rfl, (((((fr.refl.sI (.inr ⟨rfl, rfl⟩)).sI (.inr ⟨rfl, rfl⟩)).sI (.inr ⟨rfl, rfl⟩)).sI (.inr ⟨rfl, rfl⟩)).sI (.inr ⟨rfl, rfl⟩)).sI (.inr ⟨rfl, rfl⟩)⟩
      · unfold f223 f223_13
        rw [q5, if_pos (zge (by omega)), if_pos (zle (by omega))]
        rfl
      · show sx.1 24 34 = _
        rw [q24]
        exact g2.1
      · show isL (sx.1 26) g
        rw [q26]
        exact g2.2
    cases hres : res with
    | inl o' =>
      obtain ⟨ob, s', x1, x2, x3, x4, x5, x6⟩ := rC1 o' hres
      have fa : fr (0 :: rA ++ [41]) [] s (setK s' 41 0 (zI2L (zi o'.length))) := ((cfr.up rfl rfl).trans (x6.up rfl rfl)).sK rfl
      obtain ⟨sm, m1, m2, m3, m4, m5, m6, m7⟩ := mod _ (.inr fa)
      obtain ⟨rM1, _⟩ := rM sm zF m2 m3 (by unfold zF; omega)
      obtain ⟨s2, y1, y2, y3, y4⟩ := rM1 o' hres
      have fb : fr rMA (6 :: 7 :: 8 :: 9 :: rMB) (setK s' 41 0 (zI2L (zi o'.length))) s2 := (m7.up rfl rfl).trans (y4.up rfl rfl)
      have fall : fr (0 :: rA ++ 41 :: rMA) (6 :: 7 :: 8 :: 9 :: rMB) s s2 := (fa.up rfl rfl).trans (fb.up rfl rfl)
      have z0 : s2.1 0 = s'.1 0 := fb.f (a := 0) rfl (by decide)
      refine ⟨zi 0, _, _, s2, ?_, m1.trans y1, (y4.1 24 9 rfl (fun _ => rfl)).trans m6, fun _ => ?_, ⟨⟨l, ?_⟩, ⟨g, ?_, ?_, g3, .inl ⟨?_, ?_, c, k3⟩⟩, ⟨o', ?_, y2, ob⟩, ⟨?_, ?_⟩, ⟨na, h5.fr fall rfl rfl rfl rfl rfl rfl rfl rfl rfl rfl⟩, y3⟩, ?_⟩
      · unfold f253
        rw [e7, x1, zbT_l, if_pos ix01, z00]
      · rw [fb.2.1 41 0 rfl]
        rfl
      · exact ⟨h1.1.of (congrFun (fall.f rfl (by decide)) 1) (fall.f rfl (by decide)), h1.2.1.of (fall.1 24 4 rfl (fun _ => rfl)) (fall.f rfl (by decide)), h1.2.2⟩
      · exact g1.of (congrFun (fall.f rfl (by decide)) 1) (fall.f rfl (by decide))
      · exact g2.of (fall.1 24 34 rfl (fun _ => rfl)) (fall.f rfl (by decide))
      · rw [z0, x5]
        exact c07
      · exact (fall.1 24 5 rfl (fun _ => rfl)).trans k2
      · exact x2.of (congrFun (fb.f rfl (by decide)) 1) (fb.f rfl (by decide))
      · rw [z0, x3]
        exact ((y4.1 24 7 rfl (fun _ => rfl)).trans m4).symm
      · rw [z0, x4]
        exact ((y4.1 24 8 rfl (fun _ => rfl)).trans m5).symm
      · rw [fall.2.2]
        omega
    | inr fe =>
      obtain ⟨ft, e⟩ := fe
      obtain ⟨s', x1, x2, x3, x4, x5, x6⟩ := rC2 ft e hres
      have fa0 : fr (0 :: rA ++ [41]) [] s s' := (cfr.up rfl rfl).trans (x6.up rfl rfl)
      have fa : fr (0 :: rA ++ [41]) [] (thr s) (thr s') := ⟨fa0.1, fa0.2.1, by show s'.2.2 + 1 = s.2.2 + 1; rw [fa0.2.2]⟩
      obtain ⟨sm, m1, m2, m3, m4, m5, m6, m7⟩ := mod _ (.inl fa)
      obtain ⟨_, rM2⟩ := rM sm zF m2 m3 (by unfold zF; omega)
      obtain ⟨s2, y1, y2, y5, y6, y7, y3, y4⟩ := rM2 ft e hres
      have fb : fr rMA (6 :: 7 :: 8 :: 9 :: rMB) (thr s') s2 := (m7.up rfl rfl).trans (y4.up rfl rfl)
      have fall : fr (0 :: rA ++ 41 :: rMA) (6 :: 7 :: 8 :: 9 :: rMB) (thr s) s2 := (fa.up rfl rfl).trans (fb.up rfl rfl)
      have z0 : s2.1 0 = s'.1 0 := fb.f (a := 0) rfl (by decide)
      have h5' : R5 (thr s) na := h5
      refine ⟨zi 2, thr s', zi 0, s2, ?_, m1.trans y1, y7, fun q => absurd q (zne (by omega)), ⟨⟨l, ?_⟩, ⟨g, ?_, ?_, g3, .inl ⟨?_, ?_, c, k3⟩⟩, ⟨[], ?_, y2, fun v hv => by cases hv⟩, ⟨?_, ?_⟩, ⟨na, h5'.fr fall rfl rfl rfl rfl rfl rfl rfl rfl rfl rfl⟩, y3⟩, ?_⟩
      · unfold f253
        rw [e7, x1, zbT_r]
        rfl
      · exact ⟨LN.of (s := thr s) h1.1 (congrFun (fall.f rfl (by decide)) 1) (fall.f rfl (by decide)), MN.of (s := thr s) h1.2.1 (fall.1 24 4 rfl (fun _ => rfl)) (fall.f rfl (by decide)), h1.2.2⟩
      · exact LN.of (s := thr s) g1 (congrFun (fall.f rfl (by decide)) 1) (fall.f rfl (by decide))
      · exact MN.of (s := thr s) g2 (fall.1 24 34 rfl (fun _ => rfl)) (fall.f rfl (by decide))
      · rw [z0, x5]
        exact c07
      · exact (fall.1 24 5 rfl (fun _ => rfl)).trans k2
      · exact LN.of (s := thr s') x2 (congrFun (fb.f rfl (by decide)) 1) (fb.f rfl (by decide))
      · rw [z0, x3]
        exact y5.symm
      · rw [z0, x4]
        exact y6.symm
      · rw [fall.2.2]
        exact Nat.le_refl _
  · refine ⟨zi 1, thr s, zi 0, setI (thr s) 24 9 (zi 1), ?_, ?_, rfl, fun q => absurd q (zne (by omega)), ⟨⟨l, h1⟩, ⟨g, g1, g2, g3, .inr ⟨k1, k2⟩⟩, ⟨o, h3⟩, h4, ⟨na, h5⟩, h6⟩, Nat.le_refl _⟩
    · have e7 : f7 s = some (.inr 3, thr s) := by
        unfold f7
        rw [k1, if_neg (not_not_intro rfl), if_pos he]
      unfold f253
      rw [e7, zbT_r]
      rfl
    · unfold f223 f223_13
      rw [show (thr s).1 24 5 = zi (-1) from k2, if_neg (znge (by omega)), if_neg (znle (by omega))]
/-- all that is left: every conversion writes alike, and read -/
theorem goal_of_conv (hC : ConvOK) (hD : ∀ s x, (x = zi 0 ∨ x = zi 1) → Inv Sound s → s.2.2 < 600000 → opOKL Sound s (f255 x) (f228 x)) : mGoal := goal_of_ops op_format (op_run hC) hD
