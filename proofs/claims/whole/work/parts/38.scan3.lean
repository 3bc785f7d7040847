/-! the reference takes a spec apart -/
theorem m199_A {s : zS} {g : List Int} (hL : MN 34 26 s g) (hg : g.length ≤ 400) (ha : asc g) {p : Nat} (hp : p < g.length) :
    ∃ s', fr [] [14, 15, 16, 17] s s' ∧ s'.1 24 15 = zi 0 ∧ s'.1 24 16 = zi (-1) ∧ s'.1 24 17 = zi (-1) ∧ ((∃ w q x3, spA g p = some (w, q) ∧ q ≤ g.length ∧ s'.1 24 14 = zi w ∧ f199 (zi p) s = f199_102 zF (zi p) (zi (q : Nat)) x3 (zi 0) s') ∨ (spA g p = none ∧ f199 (zi p) s = some (zi 1, s'))) := by
  have hM1 : MN 34 26 (setI (setI (setI (setI s 24 14 (zi 0)) 24 15 (zi 0)) 24 16 (zi (-1))) 24 17 (zi (-1))) g := hL
  have hf1 : fr [] [14, 15, 16, 17] s (setI (setI (setI (setI s 24 14 (zi 0)) 24 15 (zi 0)) 24 16 (zi (-1))) 24 17 (zi (-1))) := (((fr.refl.sI (.inr ⟨rfl, rfl⟩)).sI (.inr ⟨rfl, rfl⟩)).sI (.inr ⟨rfl, rfl⟩)).sI (.inr ⟨rfl, rfl⟩)
  have hr := atl_range g (p + 1 : Nat)
  have hr2 := atl_range g (p + 1 + nd g (p + 1) : Nat)
  have hle := nd_le (g := g) (g.length - (p + 1)) (p + 1) (by omega)
  have n01 : ¬ zi 1 = zi 0 := zne (by omega)
  -- no number
  have e84 : ∀ x3 : Int32, ¬ (nd g (p + 1) > 0 ∧ atl g (p + 1 + nd g (p + 1) : Nat) = 36) → f199 (zi p) s = f199_84 (zi p) (zi (p + 1 : Nat)) x3 (zi 0) (setI (setI (setI (setI s 24 14 (zi 0)) 24 15 (zi 0)) 24 16 (zi (-1))) 24 17 (zi (-1))) → ∃ s', fr [] [14, 15, 16, 17] s s' ∧ s'.1 24 15 = zi 0 ∧ s'.1 24 16 = zi (-1) ∧ s'.1 24 17 = zi (-1) ∧ ((∃ w q x3, spA g p = some (w, q) ∧ q ≤ g.length ∧ s'.1 24 14 = zi w ∧ f199 (zi p) s = f199_102 zF (zi p) (zi (q : Nat)) x3 (zi 0) s') ∨ (spA g p = none ∧ f199 (zi p) s = some (zi 1, s'))) := by
    intro x3 h36 h
    rw [h]
    unfold f199_84 spA
    rw [hM1.at hg ha (by omega), zb1_mk, if_neg h36]
    by_cases c60 : atl g (p + 1 : Nat) = 60
    · have hin := atl_in (g := g) (p := p + 1) (by omega)
      rw [c60, if_neg (not_not_intro rfl), if_pos rfl, zi_add]
      refine ⟨_, ?_, ?_, ?_, ?_, .inl ⟨-1, p + 2, x3, rfl, by omega, ?_, rfl⟩⟩
      · exact hf1.sI (.inr ⟨rfl, rfl⟩)
      all_goals rfl
    · rw [if_pos (zne (by omega)), if_neg c60]
      exact ⟨_, hf1, rfl, rfl, rfl, .inl ⟨0, p + 1, x3, rfl, by omega, rfl, rfl⟩⟩
  by_cases e0 : nd g (p + 1) = 0
  · refine e84 (zi (p + 1 + nd g (p + 1) : Nat)) (by omega) ?_
    unfold f199
    rw [zi_add, show ((p : Int) + 1) = ((p + 1 : Nat) : Int) from rfl, f197_eq hL hg ha (by omega), zb1_mk, if_pos (zle (by omega))]
  · by_cases c36 : atl g (p + 1 + nd g (p + 1) : Nat) = 36
    · have hin := atl_in (g := g) (p := p + 1 + nd g (p + 1)) (by omega)
      unfold f199 spA
      rw [zi_add, show ((p : Int) + 1) = ((p + 1 : Nat) : Int) from rfl, f197_eq hL hg ha (by omega), zb1_mk, if_neg (znle (by omega)), hM1.at hg ha (by omega), zb1_mk, if_pos (show nd g (p + 1) > 0 ∧ atl g (p + 1 + nd g (p + 1) : Nat) = 36 from ⟨by omega, c36⟩), c36, if_neg (not_not_intro rfl), zi_sub]
      by_cases c4 : nd g (p + 1) > 4
      · rw [if_pos (zgt (by omega)), if_pos (Or.inl c4)]
        exact ⟨_, hf1, rfl, rfl, rfl, .inr ⟨rfl, rfl⟩⟩
      · rw [if_neg (zngt (by omega)), hM1.at hg ha (by omega), zb1_mk]
        by_cases c48 : atl g (p + 1 : Nat) = 48
        · rw [c48, if_neg (not_not_intro rfl), if_pos (Or.inr rfl)]
          exact ⟨_, hf1, rfl, rfl, rfl, .inr ⟨rfl, rfl⟩⟩
        · rw [if_pos (zne (by omega)), if_neg (show ¬ (nd g (p + 1) > 4 ∨ atl g (p + 1 : Nat) = 48) by omega), f198_eq hM1 hg ha hle, zb1_mk, zi_add]
          refine ⟨_, ?_, ?_, ?_, ?_, .inl ⟨_, _, _, rfl, ?_, ?_, rfl⟩⟩
          · exact hf1.sI (.inr ⟨rfl, rfl⟩)
          · rfl
          · rfl
          · rfl
          · omega
          · rfl
    · refine e84 (zi (p + 1 + nd g (p + 1) : Nat)) (fun h => c36 h.2) ?_
      unfold f199
      rw [zi_add, show ((p : Int) + 1) = ((p + 1 : Nat) : Int) from rfl, f197_eq hL hg ha (by omega), zb1_mk, if_neg (znle (by omega)), hM1.at hg ha (by omega), zb1_mk, if_pos (zne (by omega))]
theorem or01 {t y : Int} (ht : t = 0 ∨ t = 1) (hy : y = 0 ∨ y = 1) : zi t ||| zi y = zi (if t = 0 ∧ y = 0 then 0 else 1) := by
  rcases ht with rfl | rfl <;> rcases hy with rfl | rfl <;> decide
theorem m199_F {g : List Int} (hg : g.length ≤ 400) (ha : asc g) {p : Nat} {x3 : Int32} : ∀ (d i n : Nat) (s : zS) (f : Int32) (t : Int), d + i = g.length → d < n → MN 34 26 s g → s.1 24 15 = f → (t = 0 ∨ t = 1) →
    ∃ s', f199_102 n (zi p) (zi i) x3 (zi t) s = f199_176 (zi p) (zi (fl g i f t).2.2) (zi (fl g i f t).2.1) s' ∧ s'.1 24 15 = (fl g i f t).1 ∧ fr [] [15] s s' := by
  intro d
  induction d with
  | zero =>
    intro i n s f t hd hn hM h15 ht
    obtain ⟨n, rfl⟩ : ∃ k, n = k + 1 := ⟨n - 1, by omega⟩
    rw [fl_no (by rw [atl_ge (by omega)]; exact ix_flags0)]
    refine ⟨s, ?_, h15, fr.refl⟩
    show b199_102 (f199_102 n) _ _ _ _ _ = _
    unfold b199_102
    rw [hM.at hg ha (by omega), zb1_mk, atl_ge (by omega), if_pos (zlt (by omega))]
  | succ d ih =>
    intro i n s f t hd hn hM h15 ht
    obtain ⟨n, rfl⟩ : ∃ k, n = k + 1 := ⟨n - 1, by omega⟩
    have hi : i < g.length := by omega
    have hc := ha _ (List.getElem_mem hi)
    rw [← atl_asc ha hi] at hc
    have e0 : f199_102 (n + 1) (zi p) (zi i) x3 (zi t) s = b199_102 (f199_102 n) (zi p) (zi i) x3 (zi t) s := rfl
    rw [e0]
    unfold b199_102
    rw [hM.at hg ha (by omega), zb1_mk, if_neg (znlt (by omega)), hM.at hg ha (by omega), zb1_mk]
    by_cases q : zidx 56 (zi (atl g i)) < zi 0
    · rw [fl_no q, if_pos q]
      exact ⟨s, rfl, h15, fr.refl⟩
    · rw [fl_yes q, if_neg q, hM.at hg ha (by omega), zb1_mk]
      unfold f199_156
      have key : ∀ y : Int, (y = 0 ∨ y = 1) → (if t = 0 ∧ y = 0 then (0 : Int) else 1) = (if t = 0 ∧ (f &&& fbit g i) = zi 0 then 0 else 1) → ∃ s', f199_102 n (zi p) (zi i + zi 1) x3 (zi t ||| zi y) (setI s 24 15 ((s.1 24 15) ||| (zshl (zi 1) (zidx 56 (zi (atl g i)))))) = f199_176 (zi p) (zi (fl g (i + 1) (f ||| fbit g i) (if t = 0 ∧ (f &&& fbit g i) = zi 0 then 0 else 1)).2.2) (zi (fl g (i + 1) (f ||| fbit g i) (if t = 0 ∧ (f &&& fbit g i) = zi 0 then 0 else 1)).2.1) s' ∧ s'.1 24 15 = (fl g (i + 1) (f ||| fbit g i) (if t = 0 ∧ (f &&& fbit g i) = zi 0 then 0 else 1)).1 ∧ fr [] [15] s s' := by
        intro y hy hyt
        rw [zi_add, or01 ht hy, hyt]
        obtain ⟨s', q1, q2, q3⟩ := ih (i + 1) n (setI s 24 15 ((s.1 24 15) ||| (zshl (zi 1) (zidx 56 (zi (atl g i)))))) (f ||| fbit g i) (if t = 0 ∧ (f &&& fbit g i) = zi 0 then 0 else 1) (by omega) (by omega) hM (by rw [h15]; rfl) (by split <;> omega)
        exact ⟨s', q1, q2, (fr.refl.sI (.inr ⟨rfl, rfl⟩)).trans q3⟩
      by_cases w : (f &&& fbit g i) = zi 0
      · have w' : (s.1 24 15 &&& zshl (zi 1) (zidx 56 (zi (atl g i)))) = zi 0 := by rw [h15]; exact w
        rw [if_pos w']
        refine key 0 (.inl rfl) ?_
        rcases ht with rfl | rfl
        · rw [if_pos ⟨rfl, rfl⟩, if_pos ⟨rfl, w⟩]
        · rw [if_neg (by omega), if_neg (by omega)]
      · have w' : ¬ (s.1 24 15 &&& zshl (zi 1) (zidx 56 (zi (atl g i)))) = zi 0 := by rw [h15]; exact w
        rw [if_neg w']
        refine key 1 (.inr rfl) ?_
        rw [if_neg (by omega), if_neg (fun h => w h.2)]
theorem m199_W {s : zS} {g : List Int} (hL : MN 34 26 s g) (hg : g.length ≤ 400) (ha : asc g) {p q : Nat} (hq : q ≤ g.length) {x4 : Int32} (h16 : s.1 24 16 = zi (-1)) :
    ∃ s', fr [] [16] s s' ∧ ((∃ W q', spW g q = some (W, q') ∧ q' ≤ g.length ∧ s'.1 24 16 = zi W ∧ W ≤ 2000 ∧ -1 ≤ W ∧ f199_176 (zi p) (zi q) x4 s = f199_206 (zi p) (zi (q' : Nat)) x4 s') ∨ (spW g q = none ∧ f199_176 (zi p) (zi q) x4 s = some (zi 1, s'))) := by
  have hle := nd_le (g := g) (g.length - q) q (by omega)
  unfold f199_176 spW
  rw [f197_eq hL hg ha hq, zb1_mk, zi_sub]
  by_cases c4 : nd g q > 4
  · rw [if_pos c4, if_neg (znle (by omega))]
    exact ⟨s, fr.refl, .inr ⟨rfl, rfl⟩⟩
  · rw [if_neg c4, if_pos (zle (by omega))]
    have hv := dv_range (g := g) (p := q) (nd g q) (by omega) (Nat.le_refl _)
    by_cases e0 : nd g q = 0
    · rw [e0, if_pos (zle (by omega)), if_neg (show ¬ dv g q 0 > 2000 by show ¬ (0 : Int) > 2000; decide)]
      exact ⟨s, fr.refl, .inl ⟨-1, q + 0, rfl, by omega, h16, by omega, by omega, rfl⟩⟩
    · rw [if_neg (znle (by omega)), f198_eq hL hg ha hle, zb1_mk]
      by_cases c2 : dv g q (nd g q) > 2000
      · rw [if_pos c2]
        refine ⟨setI s 24 16 (zi (dv g q (nd g q))), fr.refl.sI (.inr ⟨rfl, rfl⟩), .inr ⟨rfl, ?_⟩⟩
        unfold f199_206
        rw [show (setI s 24 16 (zi (dv g q (nd g q)))).1 24 16 = zi (dv g q (nd g q)) from rfl, if_neg (znle (by omega))]
      · rw [if_neg c2, if_neg e0]
        refine ⟨_, ?_, .inl ⟨_, _, rfl, hle, ?_, ?_, ?_, rfl⟩⟩
        · exact fr.refl.sI (.inr ⟨rfl, rfl⟩)
        · rfl
        · omega
        · omega
theorem m199_P {s : zS} {g : List Int} (hL : MN 34 26 s g) (hg : g.length ≤ 400) (ha : asc g) {p q : Nat} (hq : q ≤ g.length) {x4 : Int32} {W : Int} (h16 : s.1 24 16 = zi W) (hW : W ≤ 2000) (hW2 : -1 ≤ W) (h17 : s.1 24 17 = zi (-1)) :
    ∃ s', fr [] [17] s s' ∧ ((∃ pr q', spP g q = some (pr, q') ∧ q' ≤ g.length ∧ s'.1 24 17 = zi pr ∧ -1 ≤ pr ∧ pr ≤ 1100 ∧ f199_206 (zi p) (zi q) x4 s = f199_282 (zi p) (zi (q' : Nat)) x4 s') ∨ (spP g q = none ∧ f199_206 (zi p) (zi q) x4 s = some (zi 1, s'))) := by
  have hr := atl_range g q
  unfold f199_206 spP
  rw [h16, if_pos (zle (by omega)), hL.at hg ha (by omega), zb1_mk]
  by_cases c46 : atl g q = 46
  · have hin := atl_in (g := g) (p := q) (by omega)
    have hle := nd_le (g := g) (g.length - (q + 1)) (q + 1) (by omega)
    rw [c46, if_neg (not_not_intro rfl), if_pos rfl, zi_add, show ((q : Int) + 1) = ((q + 1 : Nat) : Int) from rfl, f197_eq hL hg ha (by omega), zb1_mk]
    by_cases e0 : nd g (q + 1) = 0
    · rw [if_pos e0, if_pos (zeq (by omega))]
      exact ⟨s, fr.refl, .inr ⟨rfl, rfl⟩⟩
    · rw [if_neg e0, if_neg (zne (by omega)), zi_sub, zi_sub]
      by_cases c4 : nd g (q + 1) > 4
      · rw [if_pos c4, if_neg (znle (by omega))]
        exact ⟨s, fr.refl, .inr ⟨rfl, rfl⟩⟩
      · rw [if_neg c4, if_pos (zle (by omega)), f198_eq hL hg ha hle, zb1_mk]
        have hv := dv_range (g := g) (p := q + 1) (nd g (q + 1)) (by omega) (Nat.le_refl _)
        by_cases c2 : dv g (q + 1) (nd g (q + 1)) > 1100
        · rw [if_pos c2, if_neg (znle (by omega))]
          refine ⟨_, ?_, .inr ⟨rfl, rfl⟩⟩
          exact fr.refl.sI (.inr ⟨rfl, rfl⟩)
        · rw [if_neg c2, if_pos (zle (by omega))]
          refine ⟨_, ?_, .inl ⟨_, _, rfl, hle, ?_, ?_, ?_, rfl⟩⟩
          · exact fr.refl.sI (.inr ⟨rfl, rfl⟩)
          · rfl
          · omega
          · omega
  · rw [if_neg c46, if_pos (zne (by omega))]
    exact ⟨s, fr.refl, .inl ⟨-1, q, rfl, hq, h17, by omega, by omega, rfl⟩⟩
theorem m199_C {s : zS} {g : List Int} (hL : MN 34 26 s g) (hg : g.length ≤ 400) (ha : asc g) {p q : Nat} (hq : q ≤ g.length) {x4 : Int32} :
    ∃ s', fr [] [18, 19, 22] s s' ∧ ((∃ cv cap su nx, spC g q = some (cv, cap, su, nx) ∧ s'.1 24 18 = zi cv ∧ s'.1 24 19 = zi su ∧ s'.1 24 22 = zi cap ∧ f199_282 (zi p) (zi q) x4 s = f199_399 (zi ((nx : Nat) - 1)) x4 s') ∨ (spC g q = none ∧ f199_282 (zi p) (zi q) x4 s = some (zi 1, s'))) := by
  have hr := atl_asc_range ha q
  have hr1 := atl_asc_range ha (q + 1 : Nat)
  unfold f199_282 spC
  rw [hL.at hg ha (by omega), zb1_mk]
  by_cases d0 : atl g q < 0
  · rw [if_pos (Or.inl d0), if_pos (zlt (by omega))]
    exact ⟨s, fr.refl, .inr ⟨rfl, rfl⟩⟩
  · rw [if_neg (znlt (by omega))]
    by_cases d1 : zidx 57 (zi (atl g q)) < zi 0
    · rw [if_pos (Or.inr d1), if_neg (show ¬ zidx 57 (zi (atl g q)) ≥ zi 0 from Int32.not_le.mpr d1)]
      exact ⟨s, fr.refl, .inr ⟨rfl, rfl⟩⟩
    · rw [if_neg (fun h => h.elim d0 d1), if_pos (show zidx 57 (zi (atl g q)) ≥ zi 0 from Int32.not_lt.mp d1)]
      have hcap : capOf (atl g q) = 0 ∨ capOf (atl g q) = 1 := by
        unfold capOf
        split <;> omega
      have hb : mBit (zi (capOf (atl g q))) := by rcases hcap with e | e <;> rw [e] <;> decide
      have e327 : f199_327 (zi p) (zi q) x4 (zi (atl g q)) (zi (capOf (atl g q))) s = f199_348 (zi p) (zi q) x4 (zi (cvOf (atl g q))) (setI s 24 22 (zi (capOf (atl g q)))) := by
        unfold f199_327
        rw [if_pos hb]
        unfold capOf cvOf
        by_cases q1 : 65 ≤ atl g q ∧ atl g q ≤ 90
        · rw [if_pos q1, if_pos q1, if_neg (zne (by omega)), zi_add]
        · rw [if_neg q1, if_neg q1, if_pos rfl]
      have e3 : (if zi (atl g q) < zi 65 then f199_327 (zi p) (zi q) x4 (zi (atl g q)) (zi 0) s else if zi (atl g q) > zi 90 then f199_327 (zi p) (zi q) x4 (zi (atl g q)) (zi 0) s else f199_327 (zi p) (zi q) x4 (zi (atl g q)) (zi 1) s) = f199_327 (zi p) (zi q) x4 (zi (atl g q)) (zi (capOf (atl g q))) s := by
        unfold capOf
        by_cases q1 : atl g q < 65
        · rw [if_pos (zlt (by omega)), if_neg (by omega)]
        · rw [if_neg (znlt (by omega))]
          by_cases q2 : atl g q > 90
          · rw [if_pos (zgt (by omega)), if_neg (by omega)]
          · rw [if_neg (zngt (by omega)), if_pos (by omega)]
      rw [e3, e327]
      have hcvr : -1 ≤ cvOf (atl g q) ∧ cvOf (atl g q) ≤ 127 := by
        unfold cvOf
        split <;> omega
      unfold f199_348
      by_cases c116 : cvOf (atl g q) = 116
      · rw [if_pos c116, c116, if_neg (not_not_intro rfl), zi_add, show ((q : Int) + 1) = ((q + 1 : Nat) : Int) from rfl]
        have hM2 : MN 34 26 (setI (setI (setI s 24 22 (zi (capOf (atl g q)))) 24 18 (zi 116)) 24 19 (zi 0)) g := hL
        have hf2 : fr [] [18, 19, 22] s (setI (setI (setI s 24 22 (zi (capOf (atl g q)))) 24 18 (zi 116)) 24 19 (zi 0)) := ((fr.refl.sI (.inr ⟨rfl, rfl⟩)).sI (.inr ⟨rfl, rfl⟩)).sI (.inr ⟨rfl, rfl⟩)
        rw [hM2.at hg ha (by omega), zb1_mk]
        refine ⟨setI (setI (setI (setI s 24 22 (zi (capOf (atl g q)))) 24 18 (zi 116)) 24 19 (zi 0)) 24 19 (zi (atl g (q + 1 : Nat))), hf2.sI (.inr ⟨rfl, rfl⟩), ?_⟩
        by_cases x0 : atl g (q + 1 : Nat) < 0
        · right
          rw [if_pos (Or.inl x0), if_pos (zlt (by omega))]
          exact ⟨rfl, rfl⟩
        · rw [if_neg (znlt (by omega))]
          by_cases x1 : zidx 58 (zi (atl g (q + 1 : Nat))) < zi 0
          · right
            rw [if_pos (Or.inr x1), if_neg (show ¬ zidx 58 (zi (atl g (q + 1 : Nat))) ≥ zi 0 from Int32.not_le.mpr x1)]
            exact ⟨rfl, rfl⟩
          · left
            rw [if_neg (fun h => h.elim x0 x1), if_pos (show zidx 58 (zi (atl g (q + 1 : Nat))) ≥ zi 0 from Int32.not_lt.mp x1)]
            refine ⟨_, _, _, _, rfl, rfl, rfl, rfl, ?_⟩
            congr 2
            omega
      · rw [if_neg c116, if_pos (zne (by omega))]
        refine ⟨setI (setI (setI s 24 22 (zi (capOf (atl g q)))) 24 18 (zi (cvOf (atl g q)))) 24 19 (zi 0), ((fr.refl.sI (.inr ⟨rfl, rfl⟩)).sI (.inr ⟨rfl, rfl⟩)).sI (.inr ⟨rfl, rfl⟩), .inl ⟨_, _, _, _, rfl, rfl, rfl, rfl, ?_⟩⟩
        congr 2
        omega
theorem m199_Z {s : zS} {f : Int32} {t W pr cv x : Int} (h2 : s.1 24 15 = f) (ht : t = 0 ∨ t = 1) (h4 : s.1 24 16 = zi W) (hW1 : -1 ≤ W) (hW2 : W ≤ 2000) (h5 : s.1 24 17 = zi pr) (hp : -1 ≤ pr) (hp2 : pr ≤ 1100) (h6 : s.1 24 18 = zi cv) (hc : 0 ≤ cv) (hc2 : cv ≤ 127) : f199_399 (zi x) (zi t) s = some (zi (flt f t W pr cv), setI s 24 20 (zi (x + 1))) := by
  have hr51 : ∀ (m : Int) (s' : zS), r180 f (zi m) s' = if (f &&& zi m) = zi 0 then zi 0 else zi 1 := fun _ _ => rfl
  have n01 : ¬ zi 1 = zi 0 := zne (by omega)
  have g2 : (setI s 24 20 (zi (x + 1))).1 24 15 = f := h2
  have g4 : (setI s 24 20 (zi (x + 1))).1 24 16 = zi W := h4
  have g5 : (setI s 24 20 (zi (x + 1))).1 24 17 = zi pr := h5
  have g6 : (setI s 24 20 (zi (x + 1))).1 24 18 = zi cv := h6
  have e520 : f199_520 (setI s 24 20 (zi (x + 1))) = some (zi (if 0 ≤ pr ∧ ¬ zidx 59 (zi cv) < zi 0 then 7 else 0), setI s 24 20 (zi (x + 1))) := by
    unfold f199_520
    rw [g5, g6]
    by_cases q1 : pr < 0
    · rw [if_pos (zlt (by omega)), if_neg (by omega)]
    · rw [if_neg (znlt (by omega))]
      by_cases q2 : zidx 59 (zi cv) < zi 0
      · rw [if_pos q2, if_neg (fun h => h.2 q2)]
      · rw [if_neg q2, if_pos ⟨by omega, q2⟩]
  have e501 : f199_501 (setI s 24 20 (zi (x + 1))) = some (zi (if cv = 110 ∧ 0 ≤ W then 6 else if 0 ≤ pr ∧ ¬ zidx 59 (zi cv) < zi 0 then 7 else 0), setI s 24 20 (zi (x + 1))) := by
    unfold f199_501
    rw [g4, g6, e520]
    by_cases q2 : cv = 110
    · subst q2
      rw [if_neg (not_not_intro rfl)]
      by_cases q1 : W < 0
      · rw [if_pos (zlt (by omega)), if_neg (show ¬ ((110 : Int) = 110 ∧ 0 ≤ W) by omega)]
      · rw [if_neg (znlt (by omega)), if_pos (show (110 : Int) = 110 ∧ 0 ≤ W from ⟨rfl, by omega⟩)]
    · rw [if_pos (zne (by omega)), if_neg (show ¬ (cv = 110 ∧ 0 ≤ W) from fun h => q2 h.1)]
  have e476 : f199_476 (setI s 24 20 (zi (x + 1))) = some (zi (if ¬ (f &&& zi 4) = zi 0 ∧ ¬ (f &&& zi 8) = zi 0 then 5 else if cv = 110 ∧ 0 ≤ W then 6 else if 0 ≤ pr ∧ ¬ zidx 59 (zi cv) < zi 0 then 7 else 0), setI s 24 20 (zi (x + 1))) := by
    unfold f199_476
    rw [g2, hr51, hr51, e501]
    by_cases q1 : (f &&& zi 4) = zi 0
    · rw [if_pos q1, if_pos rfl, if_neg (show ¬ (¬ (f &&& zi 4) = zi 0 ∧ ¬ (f &&& zi 8) = zi 0) from fun h => h.1 q1)]
    · rw [if_neg q1, if_neg n01]
      by_cases q2 : (f &&& zi 8) = zi 0
      · rw [if_pos q2, if_pos rfl, if_neg (show ¬ (¬ (f &&& zi 4) = zi 0 ∧ ¬ (f &&& zi 8) = zi 0) from fun h => h.2 q2)]
      · rw [if_neg q2, if_neg n01, if_pos (show ¬ (f &&& zi 4) = zi 0 ∧ ¬ (f &&& zi 8) = zi 0 from ⟨q1, q2⟩)]
  have e453 : f199_453 (setI s 24 20 (zi (x + 1))) = some (zi (if ¬ (f &&& zi 1) = zi 0 ∧ ¬ (f &&& zi 16) = zi 0 then 5 else if ¬ (f &&& zi 4) = zi 0 ∧ ¬ (f &&& zi 8) = zi 0 then 5 else if cv = 110 ∧ 0 ≤ W then 6 else if 0 ≤ pr ∧ ¬ zidx 59 (zi cv) < zi 0 then 7 else 0), setI s 24 20 (zi (x + 1))) := by
    unfold f199_453
    rw [g2, hr51, hr51, e476]
    by_cases q1 : (f &&& zi 1) = zi 0
    · rw [if_pos q1, if_pos rfl, if_neg (show ¬ (¬ (f &&& zi 1) = zi 0 ∧ ¬ (f &&& zi 16) = zi 0) from fun h => h.1 q1)]
    · rw [if_neg q1, if_neg n01]
      by_cases q2 : (f &&& zi 16) = zi 0
      · rw [if_pos q2, if_neg (not_not_intro rfl), if_neg (show ¬ (¬ (f &&& zi 1) = zi 0 ∧ ¬ (f &&& zi 16) = zi 0) from fun h => h.2 q2)]
      · rw [if_neg q2, if_pos n01, if_pos (show ¬ (f &&& zi 1) = zi 0 ∧ ¬ (f &&& zi 16) = zi 0 from ⟨q1, q2⟩)]
  unfold f199_399 flt
  rw [h2, h4, h6, zi_add, show r200 (zi cv) (setI s 24 20 (zi (x + 1))) = r200 (zi cv) s0 from rfl, hr51, e453]
  rcases ht with rfl | rfl
  · rw [if_pos rfl, if_neg (show ¬ (0 : Int) = 1 by decide)]
    by_cases q1 : (f &&& (r200 (zi cv) s0 ^^^ zi (-1))) = zi 0
    · rw [if_pos q1, if_neg (not_not_intro q1)]
      by_cases q3 : (f &&& zi 17) = zi 0
      · rw [if_pos q3, if_pos rfl, if_neg (show ¬ (W < 0 ∧ ¬ (f &&& zi 17) = zi 0) from fun h => h.2 q3)]
      · rw [if_neg q3, if_neg n01]
        by_cases q2 : W < 0
        · rw [if_neg (znge (by omega)), if_pos (show W < 0 ∧ ¬ (f &&& zi 17) = zi 0 from ⟨q2, q3⟩)]
        · rw [if_pos (zge (by omega)), if_neg (show ¬ (W < 0 ∧ ¬ (f &&& zi 17) = zi 0) from fun h => q2 h.1)]
    · rw [if_neg q1, if_pos q1]
  · rw [if_neg n01, if_pos rfl]
theorem hfr' {s1 s2 s3 s4 s5 : zS} (k1 : fr [] [18, 19, 22] s4 s5) (d1 : fr [] [17] s3 s4) (c1 : fr [] [16] s2 s3) (b3 : fr [] [15] s1 s2) : s5.1 24 14 = s1.1 24 14 :=
  (k1.1 24 14 rfl (fun _ => rfl)).trans ((d1.1 24 14 rfl (fun _ => rfl)).trans ((c1.1 24 14 rfl (fun _ => rfl)).trans (b3.1 24 14 rfl (fun _ => rfl))))
theorem f199_eq {s : zS} {g : List Int} (hL : MN 34 26 s g) (hg : g.length ≤ 400) (ha : asc g) {p : Nat} (hp : p < g.length) :
    ∃ s', f199 (zi p) s = some (zi (spF g p), s') ∧ fr [] [14, 15, 16, 17, 18, 19, 20, 22] s s' ∧ (∀ w f t q W pr cv cap su nx, sp g p = some (w, (f, t, q), W, pr, (cv, cap, su, nx)) → s'.1 24 14 = zi w ∧ s'.1 24 15 = f ∧ s'.1 24 16 = zi W ∧ s'.1 24 17 = zi pr ∧ s'.1 24 18 = zi cv ∧ s'.1 24 19 = zi su ∧ s'.1 24 20 = zi (nx : Nat) ∧ s'.1 24 22 = zi cap) := by
  obtain ⟨s1, a1, a2, a3, a4, a5⟩ := m199_A hL hg ha hp
  have no : ∀ {s' : zS}, sp g p = none → (∀ w f t q W pr cv cap su nx, sp g p = some (w, (f, t, q), W, pr, (cv, cap, su, nx)) → s'.1 24 14 = zi w ∧ s'.1 24 15 = f ∧ s'.1 24 16 = zi W ∧ s'.1 24 17 = zi pr ∧ s'.1 24 18 = zi cv ∧ s'.1 24 19 = zi su ∧ s'.1 24 20 = zi (nx : Nat) ∧ s'.1 24 22 = zi cap) := by
    intro s' h w f t q W pr cv cap su nx h2
    rw [h] at h2
    cases h2
  have spF1 : sp g p = none → spF g p = 1 := by
    intro h
    unfold spF
    rw [h]
  rcases a5 with ⟨w, q, x3, m1, m2, m3, m4⟩ | ⟨m1, m2⟩
  · have hL1 : MN 34 26 s1 g := hL.of (a1.1 24 34 rfl (fun _ => rfl)) (a1.f rfl (by decide))
    obtain ⟨s2, b1, b2, b3⟩ := m199_F hg ha (p := p) (x3 := x3) (g.length - q) q zF s1 (zi 0) 0 (by omega) (by unfold zF; omega) hL1 a2 (.inl rfl)
    have b0 := fl_all (g := g) (g.length - q) q (zi 0) 0 (by omega) (.inl rfl)
    have hL2 : MN 34 26 s2 g := hL1.of (b3.1 24 34 rfl (fun _ => rfl)) (b3.f rfl (by decide))
    have b16 : s2.1 24 16 = zi (-1) := (b3.1 24 16 rfl (fun _ => rfl)).trans a3
    have b17 : s2.1 24 17 = zi (-1) := (b3.1 24 17 rfl (fun _ => rfl)).trans a4
    obtain ⟨s3, c1, c2⟩ := m199_W hL2 hg ha (p := p) b0.1 (x4 := zi (fl g q (zi 0) 0).2.1) b16
    rcases c2 with ⟨W, q3, n1, n2, n3, n4, n5, n6⟩ | ⟨n1, n2⟩
    · have hL3 : MN 34 26 s3 g := hL2.of (c1.1 24 34 rfl (fun _ => rfl)) (c1.f rfl (by decide))
      obtain ⟨s4, d1, d2⟩ := m199_P hL3 hg ha (p := p) n2 (x4 := zi (fl g q (zi 0) 0).2.1) n3 n4 n5 ((c1.1 24 17 rfl (fun _ => rfl)).trans b17)
      rcases d2 with ⟨pr, q4, o1, o2, o3, o4, o5, o6⟩ | ⟨o1, o2⟩
      · have hL4 : MN 34 26 s4 g := hL3.of (d1.1 24 34 rfl (fun _ => rfl)) (d1.f rfl (by decide))
        obtain ⟨s5, k1, k2⟩ := m199_C hL4 hg ha (p := p) o2 (x4 := zi (fl g q (zi 0) 0).2.1)
        rcases k2 with ⟨cv, cap, su, nx, r1, r2, r3, r4, r5⟩ | ⟨r1, r2⟩
        · have esp : sp g p = some (w, fl g q (zi 0) 0, W, pr, (cv, cap, su, nx)) := by
            unfold sp
            rw [m1]
            dsimp only
            rw [n1]
            dsimp only
            rw [o1]
            dsimp only
            rw [r1]
          have hcv : 0 ≤ cv ∧ cv ≤ 127 := by
            have hr := atl_asc_range ha q4
            unfold spC at r1
            by_cases y1 : atl g q4 < 0 ∨ zidx 57 (zi (atl g q4)) < zi 0
            · rw [if_pos y1] at r1
              cases r1
            · rw [if_neg y1] at r1
              by_cases y2 : cvOf (atl g q4) = 116
              · rw [if_pos y2] at r1
                by_cases y3 : atl g (q4 + 1 : Nat) < 0 ∨ zidx 58 (zi (atl g (q4 + 1 : Nat))) < zi 0
                · rw [if_pos y3] at r1
                  cases r1
                · rw [if_neg y3] at r1
                  injection r1 with r1
                  injection r1 with r1 _
                  omega
              · rw [if_neg y2] at r1
                injection r1 with r1
                injection r1 with r1 _
                rw [← r1]
                unfold cvOf
                have : ¬ atl g q4 < 0 := fun h => y1 (.inl h)
                split <;> omega
          have hf15 : s5.1 24 15 = (fl g q (zi 0) 0).1 := (k1.1 24 15 rfl (fun _ => rfl)).trans ((d1.1 24 15 rfl (fun _ => rfl)).trans ((c1.1 24 15 rfl (fun _ => rfl)).trans b2))
          have hf16 : s5.1 24 16 = zi W := (k1.1 24 16 rfl (fun _ => rfl)).trans ((d1.1 24 16 rfl (fun _ => rfl)).trans n3)
          have hf17 : s5.1 24 17 = zi pr := (k1.1 24 17 rfl (fun _ => rfl)).trans o3
          have eZ := m199_Z (s := s5) (f := (fl g q (zi 0) 0).1) (t := (fl g q (zi 0) 0).2.1) (W := W) (pr := pr) (cv := cv) (x := (nx : Int) - 1) hf15 b0.2.1 hf16 n5 n4 hf17 o4 o5 r2 hcv.1 hcv.2
          have hfr : fr [] [14, 15, 16, 17, 18, 19, 20, 22] s s5 := ((((a1.up rfl rfl).trans (b3.up rfl rfl)).trans (c1.up rfl rfl)).trans (d1.up rfl rfl)).trans (k1.up rfl rfl)
          refine ⟨setI s5 24 20 (zi ((nx : Int) - 1 + 1)), ?_, hfr.sI (.inr ⟨rfl, rfl⟩), ?_⟩
          · rw [m4, b1, n6, o6, r5, eZ]
            unfold spF
            rw [esp]
          · intro w' f' t' q' W' pr' cv' cap' su' nx' h
            rw [esp] at h
            injection h with h
            injection h with h1 h
            injection h with h2 h
            injection h with h3 h
            injection h with h4 h
            injection h with h5 h
            injection h with h6 h
            injection h with h7 h8
            subst h1 h3 h4 h5 h6 h7 h8
            refine ⟨?_, ?_, hf16, hf17, r2, r3, ?_, r4⟩
            · exact (hfr' k1 d1 c1 b3).trans m3
            · show s5.1 24 15 = f'
              rw [hf15, h2]
            · show zi ((nx : Int) - 1 + 1) = zi nx
              congr 1
              omega
        · have esp : sp g p = none := by
            unfold sp
            rw [m1]
            dsimp only
            rw [n1]
            dsimp only
            rw [o1]
            dsimp only
            rw [r1]
          refine ⟨s5, by rw [m4, b1, n6, o6, r2, spF1 esp], ((((a1.up rfl rfl).trans (b3.up rfl rfl)).trans (c1.up rfl rfl)).trans (d1.up rfl rfl)).trans (k1.up rfl rfl), no esp⟩
      · have esp : sp g p = none := by
          unfold sp
          rw [m1]
          dsimp only
          rw [n1]
          dsimp only
          rw [o1]
        refine ⟨s4, by rw [m4, b1, n6, o2, spF1 esp], (((a1.up rfl rfl).trans (b3.up rfl rfl)).trans (c1.up rfl rfl)).trans (d1.up rfl rfl), no esp⟩
    · have esp : sp g p = none := by
        unfold sp
        rw [m1]
        dsimp only
        rw [n1]
      refine ⟨s3, by rw [m4, b1, n2, spF1 esp], ((a1.up rfl rfl).trans (b3.up rfl rfl)).trans (c1.up rfl rfl), no esp⟩
  · have esp : sp g p = none := by
      unfold sp
      rw [m1]
    exact ⟨s1, by rw [m2, spF1 esp], a1.up rfl rfl, no esp⟩
