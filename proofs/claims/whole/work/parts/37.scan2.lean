/-! the class takes a spec apart -/
theorem f39_88_eq {s : zS} {g : List Int} (hL : LN 3 s g) {q e : Nat} (h0 : s.1 7 0 = zi q) (hq : q ≤ g.length) (he : e ≤ 1000) {y : Int} (hy : y = 0 ∨ y = 1) : f39_88 (zi e) (zi y) s = some (zi y, setI (setI s 7 1 (zi (dv g q (if e ≤ 4 then e else 4)))) 7 0 (zi (q + e + 1 : Nat))) := by
  have hbit : mBit (zi y) := by rcases hy with rfl | rfl <;> decide
  unfold f39_88
  rw [f46_eq hL h0 hq he, zb1_mk, if_pos hbit, h0, zi_add, zi_add]
  rfl
theorem f39_eq {s : zS} {g : List Int} (hL : LN 3 s g) {p : Nat} (hp : p < g.length) (h0 : s.1 7 0 = zi (p + 1 : Nat)) :
    ∃ s' q, q ≤ g.length ∧ s'.1 7 0 = zi (q : Nat) ∧ fr [7] [] s s' ∧ ((∃ w, spA g p = some (w, q) ∧ f39 s = some (zi 1, s') ∧ s'.1 7 1 = zi w) ∨ (spA g p = none ∧ f39 s = some (zi 0, s'))) := by
  have hg : g.length ≤ 400 := hL.2.2
  have hL1 : LN 3 (setI s 7 1 (zi 0)) g := hL
  have h01 : (setI s 7 1 (zi 0)).1 7 0 = zi (p + 1 : Nat) := h0
  have hr := atl_range g (p + 1 : Nat)
  have hf1 : fr [7] [] s (setI s 7 1 (zi 0)) := fr.refl.sI (.inl rfl)
  unfold f39 spA
  rw [h0, hL1.at (by omega) (by omega), zb1_mk]
  by_cases c60 : atl g (p + 1 : Nat) = 60
  · have hin := atl_in (g := g) (p := p + 1) (by omega)
    refine ⟨setI (setI (setI s 7 1 (zi 0)) 7 1 (zi (-1))) 7 0 (zi (p + 2 : Nat)), p + 2, by omega, rfl, (hf1.sI (.inl rfl)).sI (.inl rfl), .inl ⟨-1, ?_, ?_, rfl⟩⟩
    · rw [if_neg (fun h => by rw [nd_no (by omega)] at h; omega), if_pos c60]
    · rw [c60, if_neg (not_not_intro rfl), h01, zi_add]
      rfl
  · have hle := nd_le (g := g) (g.length - (p + 1)) (p + 1) (by omega)
    have hr2 := atl_range g (p + 1 + nd g (p + 1) : Nat)
    rw [if_pos (zne (by omega)), h01, f44_eq hL1 (by omega), zb1_mk]
    by_cases e0 : nd g (p + 1) = 0
    · refine ⟨setI s 7 1 (zi 0), p + 1, by omega, h01, hf1, .inl ⟨0, ?_, ?_, rfl⟩⟩
      · rw [if_neg (by omega), if_neg c60]
      · rw [e0]
        rfl
    · rw [if_neg (zne (by omega)), h01, zi_add, hL1.at (i := ((p + 1 : Nat) : Int) + (nd g (p + 1) : Nat)) (by omega) (by omega), zb1_mk]
      rw [show ((p + 1 : Nat) : Int) + (nd g (p + 1) : Nat) = ((p + 1 + nd g (p + 1) : Nat) : Int) by omega]
      by_cases c36 : atl g (p + 1 + nd g (p + 1) : Nat) = 36
      · have hin := atl_in (g := g) (p := p + 1 + nd g (p + 1)) (by omega)
        rw [if_pos (show nd g (p + 1) > 0 ∧ atl g (p + 1 + nd g (p + 1) : Nat) = 36 from ⟨by omega, c36⟩), c36, if_pos rfl]
        by_cases c4 : nd g (p + 1) > 4
        · rw [if_pos (Or.inl c4), if_pos (zgt (by omega)), f39_88_eq hL1 h01 (by omega) (by omega) (.inl rfl)]
          refine ⟨_, p + 1 + nd g (p + 1) + 1, by omega, ?_, ?_, .inr ⟨rfl, rfl⟩⟩
          · rfl
          · exact (hf1.sI (.inl rfl)).sI (.inl rfl)
        · rw [if_neg (zngt (by omega)), h01, hL1.at (by omega) (by omega), zb1_mk]
          by_cases c48 : atl g (p + 1 : Nat) = 48
          · rw [if_pos (Or.inr c48), c48, if_pos rfl, f39_88_eq hL1 h01 (by omega) (by omega) (.inl rfl)]
            refine ⟨_, p + 1 + nd g (p + 1) + 1, by omega, ?_, ?_, .inr ⟨rfl, rfl⟩⟩
            · rfl
            · exact (hf1.sI (.inl rfl)).sI (.inl rfl)
          · rw [if_neg (show ¬ (nd g (p + 1) > 4 ∨ atl g (p + 1 : Nat) = 48) by omega), if_neg (zne (by omega)), f39_88_eq hL1 h01 (by omega) (by omega) (.inr rfl)]
            refine ⟨_, p + 1 + nd g (p + 1) + 1, by omega, ?_, ?_, .inl ⟨_, rfl, rfl, ?_⟩⟩
            · rfl
            · exact (hf1.sI (.inl rfl)).sI (.inl rfl)
            show zi (dv g (p + 1) (if nd g (p + 1) ≤ 4 then nd g (p + 1) else 4)) = _
            rw [if_pos (by omega)]
      · rw [if_neg (zne (by omega)), if_neg (show ¬ (nd g (p + 1) > 0 ∧ atl g (p + 1 + nd g (p + 1) : Nat) = 36) from fun h => c36 h.2), if_neg c60]
        exact ⟨setI s 7 1 (zi 0), p + 1, by omega, h01, hf1, .inl ⟨0, rfl, rfl, rfl⟩⟩
theorem f41_eq {s : zS} {g : List Int} (hL : LN 3 s g) {q : Nat} (hq : q ≤ g.length) (h0 : s.1 7 0 = zi q) :
    ∃ s', s'.1 7 0 = zi (q + nd g q : Nat) ∧ fr [7] [] s s' ∧ s'.1 7 1 = s.1 7 1 ∧ s'.1 7 2 = s.1 7 2 ∧ s'.1 7 3 = s.1 7 3 ∧ ((spW g q = some (if nd g q = 0 then -1 else dv g q (nd g q), q + nd g q) ∧ f41 s = some (zi 1, s') ∧ s'.1 7 4 = zi (dv g q (nd g q)) ∧ nd g q ≤ 4) ∨ (spW g q = none ∧ f41 s = some (zi 0, s'))) := by
  have hg : g.length ≤ 400 := hL.2.2
  have hle := nd_le (g := g) (g.length - q) q (by omega)
  unfold f41 spW
  rw [h0, f44_eq hL hq, zb1_mk, f46_eq hL h0 hq (by omega), zb1_mk, h0, zi_add]
  refine ⟨setI (setI s 7 4 (zi (dv g q (if nd g q ≤ 4 then nd g q else 4)))) 7 0 (zi ((q : Int) + (nd g q : Nat))), rfl, (fr.refl.sI (.inl rfl)).sI (.inl rfl), rfl, rfl, rfl, ?_⟩
  by_cases c4 : nd g q > 4
  · right
    rw [if_pos c4, if_pos (zgt (by omega))]
    exact ⟨rfl, rfl⟩
  · rw [if_neg c4, if_neg (zngt (by omega)), if_pos (show nd g q ≤ 4 by omega)]
    have hr := dv_range (g := g) (p := q) (nd g q) (by omega) (Nat.le_refl _)
    by_cases c2 : dv g q (nd g q) > 2000
    · right
      rw [if_pos c2, if_pos (zgt (by omega))]
      exact ⟨rfl, rfl⟩
    · left
      rw [if_neg c2, if_neg (zngt (by omega))]
      exact ⟨rfl, rfl, rfl, by omega⟩
theorem f42_eq {s : zS} {g : List Int} (hL : LN 3 s g) {q : Nat} (hq : q ≤ g.length) (h0 : s.1 7 0 = zi q) :
    ∃ s' q', q' ≤ g.length ∧ s'.1 7 0 = zi (q' : Nat) ∧ fr [7] [] s s' ∧ s'.1 7 1 = s.1 7 1 ∧ s'.1 7 2 = s.1 7 2 ∧ s'.1 7 3 = s.1 7 3 ∧ s'.1 7 4 = s.1 7 4 ∧ ((∃ pr, spP g q = some (pr, q') ∧ f42 s = some (zi 1, s') ∧ s'.1 7 5 = zi pr ∧ -1 ≤ pr ∧ pr ≤ 1100) ∨ (spP g q = none ∧ f42 s = some (zi 0, s'))) := by
  have hg : g.length ≤ 400 := hL.2.2
  have hL1 : LN 3 (setI s 7 5 (zi (-1))) g := hL
  have h01 : (setI s 7 5 (zi (-1))).1 7 0 = zi q := h0
  have hr := atl_range g q
  unfold f42 spP
  rw [h0, hL1.at (by omega) (by omega), zb1_mk]
  by_cases c46 : atl g q = 46
  · have hin := atl_in (g := g) (p := q) (by omega)
    have hle := nd_le (g := g) (g.length - (q + 1)) (q + 1) (by omega)
    have hL2 : LN 3 (setI (setI s 7 5 (zi (-1))) 7 0 (zi (q + 1 : Nat))) g := hL
    have h02 : (setI (setI s 7 5 (zi (-1))) 7 0 (zi (q + 1 : Nat))).1 7 0 = zi (q + 1 : Nat) := rfl
    have hf2 : fr [7] [] s (setI (setI s 7 5 (zi (-1))) 7 0 (zi (q + 1 : Nat))) := (fr.refl.sI (.inl rfl)).sI (.inl rfl)
    rw [if_pos c46, c46, if_pos rfl, h01, zi_add, show ((q : Int) + 1) = ((q + 1 : Nat) : Int) from rfl, f44_eq hL2 (by omega), zb1_mk, f46_eq hL2 h02 (by omega) (by omega), zb1_mk, h02, zi_add]
    refine ⟨setI (setI (setI (setI s 7 5 (zi (-1))) 7 0 (zi (q + 1 : Nat))) 7 5 (zi (dv g (q + 1) (if nd g (q + 1) ≤ 4 then nd g (q + 1) else 4)))) 7 0 (zi (((q + 1 : Nat) : Int) + (nd g (q + 1) : Nat))), q + 1 + nd g (q + 1), by omega, rfl, (hf2.sI (.inl rfl)).sI (.inl rfl), rfl, rfl, rfl, rfl, ?_⟩
    by_cases e0 : nd g (q + 1) = 0
    · right
      rw [if_pos e0, if_pos (zle (by omega))]
      exact ⟨rfl, rfl⟩
    · rw [if_neg e0, if_neg (znle (by omega))]
      by_cases c4 : nd g (q + 1) > 4
      · right
        rw [if_pos c4, if_pos (zgt (by omega))]
        exact ⟨rfl, rfl⟩
      · rw [if_neg c4, if_neg (zngt (by omega)), if_pos (show nd g (q + 1) ≤ 4 by omega)]
        have hv := dv_range (g := g) (p := q + 1) (nd g (q + 1)) (by omega) (Nat.le_refl _)
        by_cases c2 : dv g (q + 1) (nd g (q + 1)) > 1100
        · right
          rw [if_pos c2, if_pos (zgt (by omega))]
          exact ⟨rfl, rfl⟩
        · left
          rw [if_neg c2, if_neg (zngt (by omega))]
          exact ⟨_, rfl, rfl, rfl, by omega, by omega⟩
  · rw [if_neg c46, if_neg (zne (by omega))]
    exact ⟨setI s 7 5 (zi (-1)), q, hq, h01, fr.refl.sI (.inl rfl), rfl, rfl, rfl, rfl, .inl ⟨-1, rfl, rfl, rfl, by omega, by omega⟩⟩
theorem f43_eq {s : zS} {g : List Int} (hL : LN 3 s g) (ha : asc g) {q : Nat} (hq : q ≤ g.length) (h0 : s.1 7 0 = zi q) :
    ∃ s', fr [7] [] s s' ∧ s'.1 7 1 = s.1 7 1 ∧ s'.1 7 2 = s.1 7 2 ∧ s'.1 7 3 = s.1 7 3 ∧ s'.1 7 4 = s.1 7 4 ∧ s'.1 7 5 = s.1 7 5 ∧ ((∃ cv cap su nx, spC g q = some (cv, cap, su, nx) ∧ f43 s = some (zi 1, s') ∧ s'.1 7 0 = zi (nx : Nat) ∧ s'.1 7 6 = zi cv ∧ (cv = 116 → s'.1 7 7 = zi su) ∧ s'.1 7 8 = zi cap ∧ 0 ≤ cv ∧ cv ≤ 127 ∧ (cap = 0 ∨ cap = 1) ∧ q < nx ∧ nx ≤ q + 2) ∨ (spC g q = none ∧ f43 s = some (zi 0, s'))) := by
  have hg : g.length ≤ 400 := hL.2.2
  have hr := atl_asc_range ha q
  have hr1 := atl_asc_range ha (q + 1 : Nat)
  have b0 : mBit (zi 0) := by decide
  have b1 : mBit (zi 1) := by decide
  -- the state behind the letter
  have key : ∀ cap : Int, (cap = capOf (atl g q)) → f43 s = f43_37 (zi (atl g q)) (zi cap) (setI s 7 0 (zi (q + 1 : Nat))) := by
    intro cap hc
    unfold f43
    rw [h0, hL.at (by omega) (by omega), zb1_mk, h0, zi_add]
    unfold capOf at hc
    by_cases q1 : atl g q < 65
    · rw [if_neg (by omega)] at hc
      rw [if_pos (zlt (by omega)), hc]
      rfl
    · rw [if_neg (znlt (by omega))]
      by_cases q2 : atl g q > 90
      · rw [if_neg (by omega)] at hc
        rw [if_pos (zgt (by omega)), hc]
        rfl
      · rw [if_pos (by omega)] at hc
        rw [if_neg (zngt (by omega)), hc]
        rfl
  have hcap : capOf (atl g q) = 0 ∨ capOf (atl g q) = 1 := by
    unfold capOf
    split <;> omega
  have key2 : f43 s = f43_59 (zi (atl g q)) (zi (cvOf (atl g q))) (setI (setI s 7 0 (zi (q + 1 : Nat))) 7 8 (zi (capOf (atl g q)))) := by
    rw [key _ rfl]
    unfold f43_37
    have hb : mBit (zi (capOf (atl g q))) := by rcases hcap with e | e <;> rw [e] <;> assumption
    rw [if_pos hb]
    unfold capOf cvOf
    by_cases q1 : 65 ≤ atl g q ∧ atl g q ≤ 90
    · rw [if_pos q1, if_pos q1, if_neg (zne (by omega)), zi_add, zi_sub]
      congr 2
      omega
    · rw [if_neg q1, if_neg q1, if_pos rfl]
  rw [key2]
  unfold f43_59 spC
  have hcvr : -1 ≤ cvOf (atl g q) ∧ cvOf (atl g q) ≤ 127 := by
    unfold cvOf
    split <;> omega
  by_cases c116 : cvOf (atl g q) = 116
  · have hc : atl g q = 116 ∨ atl g q = 84 := by
      unfold cvOf at c116
      split at c116 <;> omega
    have hno : ¬ (atl g q < 0 ∨ zidx 57 (zi (atl g q)) < zi 0) := by
      rcases hc with e | e <;> rw [e]
      · exact fun h => h.elim (by omega) (fun h => ix_conv_t.1 h)
      · exact fun h => h.elim (by omega) (fun h => ix_conv_t.2 h)
    rw [if_neg hno, if_pos c116, c116, if_pos rfl]
    have hL2 : LN 3 (setI (setI (setI s 7 0 (zi (q + 1 : Nat))) 7 8 (zi (capOf (atl g q)))) 7 6 (zi 116)) g := hL
    have e70 : (setI (setI s 7 0 (zi (q + 1 : Nat))) 7 8 (zi (capOf (atl g q)))).1 7 0 = zi (q + 1 : Nat) := rfl
    rw [e70, hL2.at (by omega) (by omega), zb1_mk]
    have e71 : (setI (setI (setI s 7 0 (zi (q + 1 : Nat))) 7 8 (zi (capOf (atl g q)))) 7 6 (zi 116)).1 7 0 = zi (q + 1 : Nat) := rfl
    rw [e71, zi_add]
    refine ⟨setI (setI (setI (setI (setI s 7 0 (zi (q + 1 : Nat))) 7 8 (zi (capOf (atl g q)))) 7 6 (zi 116)) 7 7 (zi (atl g (q + 1 : Nat)))) 7 0 (zi (((q + 1 : Nat) : Int) + 1)), ((((fr.refl.sI (.inl rfl)).sI (.inl rfl)).sI (.inl rfl)).sI (.inl rfl)).sI (.inl rfl), rfl, rfl, rfl, rfl, rfl, ?_⟩
    by_cases d0 : atl g (q + 1 : Nat) < 0
    · right
      rw [if_pos (Or.inl d0), if_pos (zlt (by omega))]
      exact ⟨rfl, rfl⟩
    · obtain ⟨c, hc1, hc2⟩ := int128 (show 0 ≤ atl g (q + 1 : Nat) by omega) hr1.2
      have ex := ix_time c hc1
      rw [← hc2] at ex
      rw [if_neg (znlt (by omega)), ex]
      by_cases d1 : zidx 58 (zi (atl g (q + 1 : Nat))) < zi 0
      · right
        rw [if_pos (Or.inr d1), if_pos d1]
        exact ⟨rfl, rfl⟩
      · left
        rw [if_neg (fun h => h.elim d0 d1), if_neg d1]
        exact ⟨_, _, _, _, rfl, rfl, rfl, rfl, fun _ => rfl, rfl, by omega, by omega, hcap, by omega, by omega⟩
  · rw [if_neg (zne (by omega))]
    refine ⟨setI (setI (setI s 7 0 (zi (q + 1 : Nat))) 7 8 (zi (capOf (atl g q)))) 7 6 (zi (cvOf (atl g q))), ((fr.refl.sI (.inl rfl)).sI (.inl rfl)).sI (.inl rfl), rfl, rfl, rfl, rfl, rfl, ?_⟩
    by_cases d0 : atl g q < 0
    · right
      rw [if_pos (Or.inl d0), if_pos (zlt (by omega))]
      exact ⟨rfl, rfl⟩
    · obtain ⟨c, hc1, hc2⟩ := int128 (show 0 ≤ atl g q by omega) hr.2
      have ex := ix_conv c hc1
      rw [← hc2] at ex
      have hne : ¬ atl g q = 116 ∧ ¬ atl g q = 84 := by
        refine ⟨fun e => c116 (by rw [e]; decide), fun e => c116 (by rw [e]; decide)⟩
      have ex' : zidx 5 (zI2C (zi (atl g q))) < zi 0 ↔ zidx 57 (zi (atl g q)) < zi 0 := by
        rcases ex with e | e | e
        · omega
        · omega
        · exact e
      rw [if_neg (znlt (by omega))]
      by_cases d1 : zidx 57 (zi (atl g q)) < zi 0
      · right
        rw [if_pos (Or.inr d1), if_pos (ex'.mpr d1)]
        exact ⟨rfl, rfl⟩
      · left
        rw [if_neg (fun h => h.elim d0 d1), if_neg c116, if_neg (fun h => d1 (ex'.mp h))]
        have h2 : 0 ≤ cvOf (atl g q) := by
          unfold cvOf
          split <;> omega
        exact ⟨_, _, _, _, rfl, rfl, rfl, rfl, fun h => absurd h c116, rfl, h2, hcvr.2, hcap, by omega, by omega⟩
theorem r48_eq {s : zS} {cv : Int} (h : s.1 7 6 = zi cv) : r48 s = r200 (zi cv) s0 := by
  unfold r48 r200
  rw [h]
  generalize zi cv = x
  by_cases h1 : x = zi 97
  · rw [if_pos h1, if_pos h1]
  · rw [if_neg h1, if_neg h1]
    by_cases h2 : x = zi 100
    · rw [if_pos (Or.inl h2), if_pos h2]
    · rw [if_neg h2]
      by_cases h3 : x = zi 103
      · subst h3
        rfl
      · rw [if_neg (fun h => h.elim h2 h3)]
        by_cases h4 : x = zi 101
        · rw [if_pos h4, if_pos h4]
        · rw [if_neg h4, if_neg h4]
          by_cases h5 : x = zi 102
          · rw [if_pos h5, if_pos h5]
          · rw [if_neg h5, if_neg h5, if_neg h3]
theorem hz {x : Int32} (h : ¬ x = zi 0) : (if x = zi 0 then zi 0 else zi 1) = zi 1 := if_neg h
/-- the class's faults of the parts -/
theorem f47_eq {s : zS} {f : Int32} {t W pr cv : Int} (h2 : s.1 7 2 = f) (h3 : s.1 7 3 = zi t) (ht : t = 0 ∨ t = 1) (h4 : s.1 7 4 = zi (if W < 0 then 0 else W)) (hW : W = -1 ∨ 1 ≤ W) (hW2 : W ≤ 2000) (h5 : s.1 7 5 = zi pr) (hp : -1 ≤ pr) (hp2 : pr ≤ 1100) (h6 : s.1 7 6 = zi cv) (hc : 0 ≤ cv) (hc2 : cv ≤ 127) : f47 s = some (zi (flt f t W pr cv), s) := by
  have hr51 : ∀ m : Int, r51 (zi m) s = if (f &&& zi m) = zi 0 then zi 0 else zi 1 := by
    intro m
    unfold r51
    rw [h2]
  have n01 : ¬ zi 1 = zi 0 := zne (by omega)
  obtain ⟨c, hc1, hc3⟩ := int128 hc hc2
  have ex := ix_prec c hc1
  rw [← hc3] at ex
  have e98 : f47_98 s = some (zi (if 0 ≤ pr ∧ ¬ zidx 59 (zi cv) < zi 0 then 7 else 0), s) := by
    unfold f47_98 f47_123
    rw [h5, h6, ex]
    by_cases q1 : pr < 0
    · rw [if_pos (zlt (by omega)), if_pos rfl, if_neg (by omega)]
    · rw [if_neg (znlt (by omega))]
      by_cases q2 : zidx 59 (zi cv) < zi 0
      · rw [if_pos q2, if_pos rfl, if_neg (fun h => h.2 q2)]
      · rw [if_neg q2, if_neg n01, if_pos ⟨by omega, q2⟩]
  have e79 : f47_79 s = some (zi (if cv = 110 ∧ 0 ≤ W then 6 else if 0 ≤ pr ∧ ¬ zidx 59 (zi cv) < zi 0 then 7 else 0), s) := by
    unfold f47_79
    rw [h4, h6, e98]
    by_cases q1 : W < 0
    · rw [if_pos q1, if_pos (zle (by omega)), if_neg (show ¬ (cv = 110 ∧ 0 ≤ W) by omega)]
    · rw [if_neg q1, if_neg (znle (by omega))]
      by_cases q2 : cv = 110
      · subst q2
        rw [if_neg (not_not_intro rfl), if_pos (show (110 : Int) = 110 ∧ 0 ≤ W from ⟨rfl, by omega⟩)]
      · rw [if_pos (zne (by omega)), if_neg (show ¬ (cv = 110 ∧ 0 ≤ W) from fun h => q2 h.1)]
  have e60 : f47_60 s = some (zi (if ¬ (f &&& zi 4) = zi 0 ∧ ¬ (f &&& zi 8) = zi 0 then 5 else if cv = 110 ∧ 0 ≤ W then 6 else if 0 ≤ pr ∧ ¬ zidx 59 (zi cv) < zi 0 then 7 else 0), s) := by
    unfold f47_60
    rw [hr51, hr51, e79]
    by_cases q1 : (f &&& zi 4) = zi 0
    · rw [if_pos q1, if_pos rfl, if_neg (show ¬ (¬ (f &&& zi 4) = zi 0 ∧ ¬ (f &&& zi 8) = zi 0) from fun h => h.1 q1)]
    · rw [if_neg q1, if_neg n01]
      by_cases q2 : (f &&& zi 8) = zi 0
      · rw [if_pos q2, if_pos rfl, if_neg (show ¬ (¬ (f &&& zi 4) = zi 0 ∧ ¬ (f &&& zi 8) = zi 0) from fun h => h.2 q2)]
      · rw [if_neg q2, if_neg n01, if_pos (show ¬ (f &&& zi 4) = zi 0 ∧ ¬ (f &&& zi 8) = zi 0 from ⟨q1, q2⟩)]
  have e43 : f47_43 s = some (zi (if ¬ (f &&& zi 1) = zi 0 ∧ ¬ (f &&& zi 16) = zi 0 then 5 else if ¬ (f &&& zi 4) = zi 0 ∧ ¬ (f &&& zi 8) = zi 0 then 5 else if cv = 110 ∧ 0 ≤ W then 6 else if 0 ≤ pr ∧ ¬ zidx 59 (zi cv) < zi 0 then 7 else 0), s) := by
    unfold f47_43
    rw [hr51, hr51, e60]
    by_cases q1 : (f &&& zi 1) = zi 0
    · rw [if_pos q1, if_pos rfl, if_neg (show ¬ (¬ (f &&& zi 1) = zi 0 ∧ ¬ (f &&& zi 16) = zi 0) from fun h => h.1 q1)]
    · rw [if_neg q1, if_neg n01]
      by_cases q2 : (f &&& zi 16) = zi 0
      · rw [if_pos q2, if_neg (not_not_intro rfl), if_neg (show ¬ (¬ (f &&& zi 1) = zi 0 ∧ ¬ (f &&& zi 16) = zi 0) from fun h => h.2 q2)]
      · rw [if_neg q2, if_pos n01, if_pos (show ¬ (f &&& zi 1) = zi 0 ∧ ¬ (f &&& zi 16) = zi 0 from ⟨q1, q2⟩)]
  unfold f47 flt
  rw [h3, h2, r48_eq h6, h4, hr51, e43]
  rcases ht with rfl | rfl
  · rw [if_pos rfl, if_neg (show ¬ (0 : Int) = 1 by decide)]
    by_cases q1 : (f &&& (r200 (zi cv) s0 ^^^ zi (-1))) = zi 0
    · rw [if_pos q1, if_neg (not_not_intro q1)]
      by_cases q2 : W < 0
      · rw [if_pos q2, if_neg (not_not_intro rfl)]
        by_cases q3 : (f &&& zi 17) = zi 0
        · rw [if_pos q3, if_pos rfl, if_neg (show ¬ (W < 0 ∧ ¬ (f &&& zi 17) = zi 0) from fun h => h.2 q3)]
        · rw [if_neg q3, if_neg n01, if_pos (show W < 0 ∧ ¬ (f &&& zi 17) = zi 0 from ⟨q2, q3⟩)]
      · rw [if_neg q2, if_pos (zne (by omega)), if_neg (show ¬ (W < 0 ∧ ¬ (f &&& zi 17) = zi 0) from fun h => q2 h.1)]
    · rw [if_neg q1, if_pos q1]
  · rw [if_neg n01, if_pos rfl]
/-- the class's scan -/
theorem f38_eq {s : zS} {g : List Int} (hL : LN 3 s g) (ha : asc g) {p : Nat} (hp : p < g.length) :
    ∃ s', f38 (zi p) s = some (zi (spF g p), s') ∧ fr [7] [] s s' ∧ (∀ w f t q W pr cv cap su nx, sp g p = some (w, (f, t, q), W, pr, (cv, cap, su, nx)) → s'.1 7 0 = zi (nx : Nat) ∧ s'.1 7 1 = zi w ∧ s'.1 7 2 = f ∧ s'.1 7 4 = zi (if W < 0 then 0 else W) ∧ s'.1 7 5 = zi pr ∧ s'.1 7 6 = zi cv ∧ (cv = 116 → s'.1 7 7 = zi su) ∧ s'.1 7 8 = zi cap) := by
  have hg : g.length ≤ 400 := hL.2.2
  have h00 : (setI s 7 0 (zi (p + 1 : Nat))).1 7 0 = zi (p + 1 : Nat) := rfl
  obtain ⟨s1, q, a1, a2, a3, a4⟩ := f39_eq (s := setI s 7 0 (zi (p + 1 : Nat))) (g := g) hL hp h00
  have hL1 : LN 3 s1 g := hL.of (congrFun (a3.f rfl (by decide)) 1) (a3.f rfl (by decide))
  obtain ⟨s2, b1, b2, b3, b4, b5, b6⟩ := f40_loop ha (g.length - q) q zF (setI (setI s1 7 2 (zi 0)) 7 3 (zi 0)) (zi 0) 0 (by omega) (by unfold zF; omega) hL1 a2 rfl rfl (.inl rfl)
  have b0 := fl_all (g := g) (g.length - q) q (zi 0) 0 (by omega) (.inl rfl)
  have b6' : fr [7] [] s1 s2 := ((fr.refl.sI (.inl rfl)).sI (.inl rfl)).trans b6
  have e40 : f40 s1 = some s2 := by
    unfold f40
    rw [a2]
    exact b1
  have hL2 : LN 3 s2 g := hL1.of (congrFun (b6'.f rfl (by decide)) 1) (b6'.f rfl (by decide))
  obtain ⟨s3, c1, c2, c3, c4, c5, c6⟩ := f41_eq hL2 b0.1 b2
  have hle3 := nd_le (g := g) (g.length - (fl g q (zi 0) 0).2.2) (fl g q (zi 0) 0).2.2 (by omega)
  have hL3 : LN 3 s3 g := hL2.of (congrFun (c2.f rfl (by decide)) 1) (c2.f rfl (by decide))
  obtain ⟨s4, q4, d1, d2, d3, d4, d5, d6, d7, d8⟩ := f42_eq hL3 hle3 c1
  have hL4 : LN 3 s4 g := hL3.of (congrFun (d3.f rfl (by decide)) 1) (d3.f rfl (by decide))
  obtain ⟨s5, k1, k2, k3, k4, k5, k6, k7⟩ := f43_eq hL4 ha d1 d2
  have n01 : ¬ zi 1 = zi 0 := zne (by omega)
  have hfr : fr [7] [] s s5 := ((((fr.refl.sI (.inl rfl)).trans a3).trans b6').trans c2).trans (d3.trans k1)
  have e71 : f38_71 (zi p) (zi 0) s5 = some (zi 1, s5) := by
    unfold f38_71
    rw [if_pos rfl]
  -- whatever comes behind a part that can't be read
  have bad5 : f38_53 (zi p) (zi 0) s4 = some (zi 1, s5) := by
    unfold f38_53
    rcases k7 with ⟨cv, cap, su, nx, m1, m2, m3⟩ | ⟨m1, m2⟩
    · rw [m2, zb1_mk, if_neg n01, if_pos rfl, e71]
    · rw [m2, zb1_mk, if_pos rfl, e71]
  have bad4 : f38_35 (zi p) (zi 0) s3 = some (zi 1, s5) := by
    unfold f38_35
    rcases d8 with ⟨pr, m1, m2, m3⟩ | ⟨m1, m2⟩
    · rw [m2, zb1_mk, if_neg n01, if_pos rfl, bad5]
    · rw [m2, zb1_mk, if_pos rfl, bad5]
  unfold f38 spF
  rw [zi_add, show ((p : Int) + 1) = ((p + 1 : Nat) : Int) from rfl]
  rcases a4 with ⟨w, m1, m2, m3⟩ | ⟨m1, m2⟩
  · rw [m2, zb1_mk, e40, zb0_mk]
    rcases c6 with ⟨n1, n2, n3, n4⟩ | ⟨n1, n2⟩
    · rw [n2, zb1_mk, if_neg n01, if_neg n01]
      unfold f38_35
      rcases d8 with ⟨pr, o1, o2, o3, o4, o5⟩ | ⟨o1, o2⟩
      · rw [o2, zb1_mk, if_neg n01, if_neg n01]
        unfold f38_53
        rcases k7 with ⟨cv, cap, su, nx, r1, r2, r3, r4, r5, r6, r7, r8, r9, r10, r11⟩ | ⟨r1, r2⟩
        · have esp : sp g p = some (w, fl g q (zi 0) 0, (if nd g (fl g q (zi 0) 0).2.2 = 0 then -1 else dv g (fl g q (zi 0) 0).2.2 (nd g (fl g q (zi 0) 0).2.2)), pr, (cv, cap, su, nx)) := by
            unfold sp
            rw [m1]
            dsimp only
            rw [n1]
            dsimp only
            rw [o1]
            dsimp only
            rw [r1]
          have hv := dv_range (g := g) (p := (fl g q (zi 0) 0).2.2) (nd g (fl g q (zi 0) 0).2.2) n4 (Nat.le_refl _)
          have hW : (if nd g (fl g q (zi 0) 0).2.2 = 0 then (-1 : Int) else dv g (fl g q (zi 0) 0).2.2 (nd g (fl g q (zi 0) 0).2.2)) = -1 ∨ 1 ≤ (if nd g (fl g q (zi 0) 0).2.2 = 0 then (-1 : Int) else dv g (fl g q (zi 0) 0).2.2 (nd g (fl g q (zi 0) 0).2.2)) := by
            by_cases z : nd g (fl g q (zi 0) 0).2.2 = 0
            · exact .inl (if_pos z)
            · right
              rw [if_neg z]
              have h48 := nd_dig (g := g) 0 (fl g q (zi 0) 0).2.2 (by omega)
              rw [Nat.add_zero] at h48
              have hne : ¬ atl g (fl g q (zi 0) 0).2.2 = 48 := fun e => by
                have := b0.2.2
                rw [e] at this
                exact ix_flag48 this
              obtain ⟨k, hk⟩ : ∃ k, nd g (fl g q (zi 0) 0).2.2 = k + 1 := ⟨nd g (fl g q (zi 0) 0).2.2 - 1, by omega⟩
              have := dv_pos (g := g) (p := (fl g q (zi 0) 0).2.2) (by omega) k (by omega)
              rw [hk]
              exact this
          have hW4 : s5.1 7 4 = zi (if (if nd g (fl g q (zi 0) 0).2.2 = 0 then (-1 : Int) else dv g (fl g q (zi 0) 0).2.2 (nd g (fl g q (zi 0) 0).2.2)) < 0 then 0 else (if nd g (fl g q (zi 0) 0).2.2 = 0 then (-1 : Int) else dv g (fl g q (zi 0) 0).2.2 (nd g (fl g q (zi 0) 0).2.2))) := by
            rw [k5, d7, n3]
            by_cases z : nd g (fl g q (zi 0) 0).2.2 = 0
            · rw [z]
              rfl
            · rw [if_neg z, if_neg (by omega)]
          have hW2 : (if nd g (fl g q (zi 0) 0).2.2 = 0 then (-1 : Int) else dv g (fl g q (zi 0) 0).2.2 (nd g (fl g q (zi 0) 0).2.2)) ≤ 2000 := by
            by_cases z : nd g (fl g q (zi 0) 0).2.2 = 0
            · rw [if_pos z]
              omega
            · rw [if_neg z]
              unfold spW at n1
              rw [if_neg (by omega)] at n1
              apply Classical.byContradiction
              intro y
              rw [if_pos (by omega)] at n1
              cases n1
          have hf2 : s5.1 7 2 = (fl g q (zi 0) 0).1 := by rw [k3, d5, c4]; exact b3
          have hf3 : s5.1 7 3 = zi (fl g q (zi 0) 0).2.1 := by rw [k4, d6, c5]; exact b4
          have hf5 : s5.1 7 5 = zi pr := by rw [k6]; exact o3
          refine ⟨s5, ?_, hfr, ?_⟩
          · rw [r2, zb1_mk, if_neg n01, if_neg n01]
            unfold f38_71
            rw [if_neg n01, f47_eq hf2 hf3 b0.2.1 hW4 hW hW2 hf5 o4 o5 r4 r7 r8, zb1_mk, esp]
          · intro w' f' t' q' W' pr' cv' cap' su' nx' h
            rw [esp] at h
            injection h with h
            injection h with h1 h
            injection h with h2 h
            injection h with h3 h
            injection h with h4 h
            injection h with h5 h
            injection h with h6 h
            injection h with h7 h8
            subst h1 h3 h4 h5 h6 h7 h8
            refine ⟨r3, ?_, ?_, hW4, hf5, r4, r5, r6⟩
            · rw [k2, d4, c3]
              exact b5.trans m3
            · rw [hf2, h2]
        · refine ⟨s5, ?_, hfr, ?_⟩
          · rw [r2, zb1_mk, if_pos rfl, e71]
            have esp : sp g p = none := by
              unfold sp
              rw [m1]
              dsimp only
              rw [n1]
              dsimp only
              rw [o1]
              dsimp only
              rw [r1]
            rw [esp]
          · intro w' f' t' q' W' pr' cv' cap' su' nx' h
            exfalso
            unfold sp at h
            rw [m1] at h
            dsimp only at h
            rw [n1] at h
            dsimp only at h
            rw [o1] at h
            dsimp only at h
            rw [r1] at h
            cases h
      · refine ⟨s5, ?_, hfr, ?_⟩
        · rw [o2, zb1_mk, if_pos rfl, bad5]
          have esp : sp g p = none := by
            unfold sp
            rw [m1]
            dsimp only
            rw [n1]
            dsimp only
            rw [o1]
          rw [esp]
        · intro w' f' t' q' W' pr' cv' cap' su' nx' h
          exfalso
          unfold sp at h
          rw [m1] at h
          dsimp only at h
          rw [n1] at h
          dsimp only at h
          rw [o1] at h
          cases h
    · refine ⟨s5, ?_, hfr, ?_⟩
      · rw [n2, zb1_mk, if_pos rfl, bad4]
        have esp : sp g p = none := by
          unfold sp
          rw [m1]
          dsimp only
          rw [n1]
        rw [esp]
      · intro w' f' t' q' W' pr' cv' cap' su' nx' h
        exfalso
        unfold sp at h
        rw [m1] at h
        dsimp only at h
        rw [n1] at h
        cases h
  · refine ⟨s5, ?_, hfr, ?_⟩
    · rw [m2, zb1_mk, e40, zb0_mk]
      have esp : sp g p = none := by
        unfold sp
        rw [m1]
      rw [esp]
      rcases c6 with ⟨n1, n2, n3, n4⟩ | ⟨n1, n2⟩
      · rw [n2, zb1_mk, if_neg n01, if_pos rfl, bad4]
      · rw [n2, zb1_mk, if_pos rfl, bad4]
    · intro w' f' t' q' W' pr' cv' cap' su' nx' h
      exfalso
      unfold sp at h
      rw [m1] at h
      cases h
