/-! the argument of a spec, and whether it goes with the conversion -/
def goes (k cv : Int) : Prop := k = 0 ∨ cv = 98 ∨ cv = 115 ∨ (cv = 99 ∧ 2 ≤ k ∧ k ≤ 5) ∨ ((cv = 100 ∨ cv = 111 ∨ cv = 120) ∧ 3 ≤ k ∧ k ≤ 6) ∨ ((cv = 97 ∨ cv = 101 ∨ cv = 102 ∨ cv = 103) ∧ (k = 7 ∨ k = 8)) ∨ (cv = 116 ∧ k = 6)
def isCv (cv : Int) : Prop := cv = 98 ∨ cv = 115 ∨ cv = 99 ∨ cv = 100 ∨ cv = 111 ∨ cv = 120 ∨ cv = 97 ∨ cv = 101 ∨ cv = 102 ∨ cv = 103 ∨ cv = 116
theorem ix_all : ∀ c, c < 128 → zidx 57 (zi (c : Nat)) < zi 0 ∨ cvOf c = 98 ∨ cvOf c = 115 ∨ cvOf c = 99 ∨ cvOf c = 100 ∨ cvOf c = 111 ∨ cvOf c = 120 ∨ cvOf c = 97 ∨ cvOf c = 101 ∨ cvOf c = 102 ∨ cvOf c = 103 ∨ cvOf c = 116 ∨ cvOf c = 37 ∨ cvOf c = 110 := by decide +kernel
theorem spC_cv {g : List Int} (ha : asc g) {q : Nat} {cv cap su : Int} {nx : Nat} (h : spC g q = some (cv, cap, su, nx)) : isCv cv ∨ cv = 37 ∨ cv = 110 := by
  have hr := atl_asc_range ha q
  unfold spC at h
  by_cases y1 : atl g q < 0 ∨ zidx 57 (zi (atl g q)) < zi 0
  · rw [if_pos y1] at h
    cases h
  · rw [if_neg y1] at h
    obtain ⟨c, hc1, hc2⟩ := int128 (show 0 ≤ atl g q from Int.not_lt.mp (fun h => y1 (.inl h))) hr.2
    have ex := ix_all c hc1
    rw [← hc2] at ex
    have hcv : cv = cvOf (atl g q) := by
      by_cases y2 : cvOf (atl g q) = 116
      · rw [if_pos y2] at h
        by_cases y3 : atl g (q + 1 : Nat) < 0 ∨ zidx 58 (zi (atl g (q + 1 : Nat))) < zi 0
        · rw [if_pos y3] at h
          cases h
        · rw [if_neg y3] at h
          injection h with h
          injection h with h _
          omega
      · rw [if_neg y2] at h
        injection h with h
        injection h with h _
        exact h.symm
    rw [hcv]
    unfold isCv
    rcases ex with e | e
    · exact absurd (.inr e) y1
    · omega
theorem ng_real {k cv : Int} (c1 : cv = 97 ∨ cv = 101 ∨ cv = 102 ∨ cv = 103) (k0 : ¬ k = 0) (k7 : ¬ (k = 7 ∨ k = 8)) : ¬ goes k cv := by
  intro h
  rcases h with h | h | h | ⟨h, _⟩ | ⟨h, _⟩ | ⟨_, h⟩ | ⟨h, _⟩
  · exact k0 h
  · omega
  · omega
  · omega
  · omega
  · exact k7 h
  · omega
theorem ng_c {k cv : Int} (c1 : cv = 99) (k0 : ¬ k = 0) (k7 : ¬ (2 ≤ k ∧ k ≤ 5)) : ¬ goes k cv := by
  intro h
  rcases h with h | h | h | ⟨_, h⟩ | ⟨h, _⟩ | ⟨h, _⟩ | ⟨h, _⟩
  · exact k0 h
  · omega
  · omega
  · exact k7 h
  · omega
  · omega
  · omega
theorem ng_w {k cv : Int} (c1 : cv = 100 ∨ cv = 111 ∨ cv = 120) (k0 : ¬ k = 0) (k7 : ¬ (3 ≤ k ∧ k ≤ 6)) : ¬ goes k cv := by
  intro h
  rcases h with h | h | h | ⟨h, _⟩ | ⟨_, h⟩ | ⟨h, _⟩ | ⟨h, _⟩
  · exact k0 h
  · omega
  · omega
  · omega
  · exact k7 h
  · omega
  · omega
theorem ng_t {k cv : Int} (c1 : cv = 116) (k0 : ¬ k = 0) (k7 : ¬ k = 6) : ¬ goes k cv := by
  intro h
  rcases h with h | h | h | ⟨h, _⟩ | ⟨h, _⟩ | ⟨h, _⟩ | ⟨_, h⟩
  · exact k0 h
  · omega
  · omega
  · omega
  · omega
  · omega
  · exact k7 h
theorem cv_last {cv : Int} (h : isCv cv) (c1 : ¬ (cv = 97 ∨ cv = 101 ∨ cv = 102 ∨ cv = 103)) (c2 : ¬ cv = 99) (c3 : ¬ (cv = 100 ∨ cv = 111 ∨ cv = 120)) (c4 : ¬ cv = 116) : cv = 98 ∨ cv = 115 := by
  rcases h with h | h | h | h | h | h | h | h | h | h | h
  · exact .inl h
  · exact .inr h
  · exact absurd h c2
  · exact absurd (.inl h) c3
  · exact absurd (.inr (.inl h)) c3
  · exact absurd (.inr (.inr h)) c3
  · exact absurd (.inl h) c1
  · exact absurd (.inr (.inl h)) c1
  · exact absurd (.inr (.inr (.inl h))) c1
  · exact absurd (.inr (.inr (.inr h))) c1
  · exact absurd h c4
theorem cv_range {cv : Int} (h : isCv cv) : 97 ≤ cv ∧ cv ≤ 120 := by
  unfold isCv at h
  omega
theorem ite1 {p : Prop} [Decidable p] : ((if p then (1 : Int) else 0) = 1) ↔ p := by
  by_cases h : p
  · rw [if_pos h]
    exact ⟨fun _ => h, fun _ => rfl⟩
  · rw [if_neg h]
    exact ⟨fun e => absurd e (by decide), fun e => absurd e h⟩
theorem f63_eq {s : zS} {k cv : Int} (h8 : s.1 12 8 = zi k) (h6 : s.1 7 6 = zi cv) (hk : 0 ≤ k) (hk2 : k ≤ 9) (hcv : isCv cv) : (goes k cv → f63 s = some (zi 1, s)) ∧ (¬ goes k cv → f63 s = some (zi 0, s)) := by
  have b0 : mBit (zi 0) := by decide
  have b1 : mBit (zi 1) := by decide
  have hcvr := cv_range hcv
  have h6' : r54 s = zi cv := h6
  have e26 : r26 (zi k) s = if 3 ≤ k ∧ k ≤ 6 then zi 1 else zi 0 := by
    unfold r26
    by_cases q1 : k < 3
    · rw [if_pos (zlt (by omega)), if_neg (by omega)]
    · rw [if_neg (znlt (by omega))]
      by_cases q2 : k > 6
      · rw [if_pos (zgt (by omega)), if_neg (by omega)]
      · rw [if_neg (zngt (by omega)), if_pos (by omega)]
  have e27 : r27 (zi k) s = if k = 7 ∨ k = 8 then zi 1 else zi 0 := by
    unfold r27
    by_cases q1 : k = 7
    · rw [if_pos (zeq q1), if_pos (Or.inl q1)]
    · rw [if_neg (zne (by omega))]
      by_cases q2 : k = 8
      · rw [if_neg (not_not_intro (zeq q2)), if_pos (Or.inr q2)]
      · rw [if_pos (zne (by omega)), if_neg (by omega)]
  have n01 : ¬ zi 1 = zi 0 := zne (by omega)
  unfold f63
  rw [h8, h6', e26, e27]
  by_cases k0 : k = 0
  · rw [if_neg (not_not_intro (zeq k0))]
    exact ⟨fun _ => rfl, fun h => absurd (Or.inl k0) h⟩
  · rw [if_pos (zne (by omega))]
    by_cases c1 : cv = 97 ∨ cv = 101 ∨ cv = 102 ∨ cv = 103
    · have q : zi cv = zi 97 ∨ zi cv = zi 101 ∨ zi cv = zi 102 ∨ zi cv = zi 103 := by
        rcases c1 with e | e | e | e <;> rw [e]
        · exact .inl rfl
        · exact .inr (.inl rfl)
        · exact .inr (.inr (.inl rfl))
        · exact .inr (.inr (.inr rfl))
      rw [if_pos q]
      by_cases k7 : k = 7 ∨ k = 8
      · rw [if_pos k7, if_pos b1]
        exact ⟨fun _ => rfl, fun h => absurd (show goes k cv from .inr (.inr (.inr (.inr (.inr (.inl ⟨c1, k7⟩)))))) h⟩
      · rw [if_neg k7, if_pos b0]
        exact ⟨fun h => absurd h (ng_real c1 k0 k7), fun _ => rfl⟩
    · have q : ¬ (zi cv = zi 97 ∨ zi cv = zi 101 ∨ zi cv = zi 102 ∨ zi cv = zi 103) := by
        intro h
        rcases h with h | h | h | h
        · exact zne (a := cv) (b := 97) (by omega) h
        · exact zne (a := cv) (b := 101) (by omega) h
        · exact zne (a := cv) (b := 102) (by omega) h
        · exact zne (a := cv) (b := 103) (by omega) h
      rw [if_neg q]
      by_cases c2 : cv = 99
      · rw [if_pos (zeq c2)]
        by_cases k2 : k = 2
        · rw [if_pos (zeq k2)]
          exact ⟨fun _ => rfl, fun h => absurd (show goes k cv from .inr (.inr (.inr (.inl ⟨c2, by omega, by omega⟩)))) h⟩
        · rw [if_neg (zne (by omega))]
          by_cases kw : 3 ≤ k ∧ k ≤ 6
          · rw [if_pos kw, if_neg n01]
            by_cases k6 : k = 6
            · rw [if_pos (zeq k6)]
              exact ⟨fun h => absurd h (ng_c c2 k0 (by omega)), fun _ => rfl⟩
            · rw [if_neg (zne (by omega))]
              exact ⟨fun _ => rfl, fun h => absurd (show goes k cv from .inr (.inr (.inr (.inl ⟨c2, by omega, by omega⟩)))) h⟩
          · rw [if_neg kw, if_pos rfl]
            exact ⟨fun h => absurd h (ng_c c2 k0 (by omega)), fun _ => rfl⟩
      · rw [if_neg (zne (by omega))]
        by_cases c3 : cv = 100 ∨ cv = 111 ∨ cv = 120
        · have q : zi cv = zi 100 ∨ zi cv = zi 111 ∨ zi cv = zi 120 := by
            rcases c3 with e | e | e <;> rw [e]
            · exact .inl rfl
            · exact .inr (.inl rfl)
            · exact .inr (.inr rfl)
          rw [if_pos q]
          by_cases kw : 3 ≤ k ∧ k ≤ 6
          · rw [if_pos kw, if_pos b1]
            exact ⟨fun _ => rfl, fun h => absurd (show goes k cv from .inr (.inr (.inr (.inr (.inl ⟨c3, kw.1, kw.2⟩))))) h⟩
          · rw [if_neg kw, if_pos b0]
            exact ⟨fun h => absurd h (ng_w c3 k0 kw), fun _ => rfl⟩
        · have q : ¬ (zi cv = zi 100 ∨ zi cv = zi 111 ∨ zi cv = zi 120) := by
            intro h
            rcases h with h | h | h
            · exact zne (a := cv) (b := 100) (by omega) h
            · exact zne (a := cv) (b := 111) (by omega) h
            · exact zne (a := cv) (b := 120) (by omega) h
          rw [if_neg q]
          by_cases c4 : cv = 116
          · rw [if_pos (zeq c4)]
            by_cases k6 : k = 6
            · rw [if_neg (not_not_intro (zeq k6))]
              exact ⟨fun _ => rfl, fun h => absurd (show goes k cv from .inr (.inr (.inr (.inr (.inr (.inr ⟨c4, k6⟩)))))) h⟩
            · rw [if_pos (zne (by omega))]
              exact ⟨fun h => absurd h (ng_t c4 k0 k6), fun _ => rfl⟩
          · rw [if_neg (zne (by omega))]
            refine ⟨fun _ => rfl, fun h => absurd (show goes k cv from ?_) h⟩
            rcases cv_last hcv c1 c2 c3 c4 with e | e
            · exact .inr (.inl e)
            · exact .inr (.inr (.inl e))
/-- the number of the argument that a spec takes, from 1 on -/
def pickN (w ord lat : Int) : Int := if w = -1 then lat else if w = 0 then ord + 1 else w
def ordN (w ord : Int) : Int := if w = 0 then ord + 1 else ord
/-- its fault, when it is there -/
def chF (k cv : Int) (v : Int) (b : Bool) : Int := if b then (if cv = 99 ∧ ¬ (0 ≤ v ∧ v ≤ 1114111) then 10 else 0) else 9
theorem f62_eq {s : zS} {w ord lat : Int} (h1 : s.1 7 1 = zi w) (h6 : s.1 12 6 = zi ord) (h7 : s.1 12 7 = zi lat) (hw : -1 ≤ w ∧ w < 10000) : ∃ s', f62 s = some (zi (pickN w ord lat), s') ∧ s'.1 12 6 = zi (ordN w ord) ∧ s'.1 12 7 = zi lat ∧ fr [12] [] s s' := by
  have h1' : r50 s = zi w := h1
  unfold f62 pickN ordN
  rw [h1']
  by_cases q1 : w = -1
  · rw [if_neg (not_not_intro (zeq q1)), if_pos q1, if_neg (by omega), h7]
    exact ⟨s, rfl, h6, h7, fr.refl⟩
  · rw [if_pos (zne (by omega)), if_neg q1]
    by_cases q2 : w = 0
    · rw [if_pos (zeq q2), if_pos q2, if_pos q2, h6, zi_add]
      exact ⟨_, rfl, rfl, h7, fr.refl.sI (.inl rfl)⟩
    · rw [if_neg (zne (by omega)), if_neg q2, if_neg q2]
      exact ⟨s, rfl, h6, h7, fr.refl⟩
theorem f61_eq {s : zS} {w ord lat cv : Int} {n : Nat} (h1 : s.1 7 1 = zi w) (hw : -1 ≤ w ∧ w < 10000) (h6 : s.1 12 6 = zi ord) (h7 : s.1 12 7 = zi lat) (ho : 0 ≤ ord ∧ ord ≤ 1000) (hl : 0 ≤ lat ∧ lat ≤ 1000) (hc6 : s.1 7 6 = zi cv) (hcv : isCv cv) (h8 : s.1 8 3 = zi n) (hn : n ≤ 24) :
    (¬ (1 ≤ pickN w ord lat ∧ pickN w ord lat ≤ n) → ∃ s', f61 s = some (zi 8, s') ∧ fr [12] [] s s') ∧
    (∀ (i : Nat) (k v : Int), pickN w ord lat = i + 1 → i < n → s.1 9 i = zi k → s.2.1 10 i = zl v → -9223372036854775808 ≤ v → v < 9223372036854775808 → 0 ≤ k → k ≤ 9 →
      ∃ s' ft, f61 s = some (zi ft, s') ∧ ((goes k cv ∧ ft = chF k cv v true) ∨ (¬ goes k cv ∧ ft = chF k cv v false)) ∧ s'.1 12 6 = zi (ordN w ord) ∧ s'.1 12 7 = zi (i + 1 : Nat) ∧ s'.1 12 8 = zi k ∧ s'.2.1 12 9 = zl v ∧ fr [12] [] s s') := by
  obtain ⟨s1, a1, a2, a3, a4⟩ := f62_eq h1 h6 h7 hw
  have h8' : r30 s1 = zi n := (congrFun (a4.f (a := 8) rfl (by decide)) 3).trans h8
  have hpr : -1 ≤ pickN w ord lat ∧ pickN w ord lat < 20000 := by
    unfold pickN
    split
    · omega
    · split <;> omega
  unfold f61
  rw [a1, zb1_mk, h8']
  refine ⟨fun h => ?_, ?_⟩
  · by_cases q : pickN w ord lat < 1
    · rw [if_pos (zlt (by omega))]
      exact ⟨s1, rfl, a4⟩
    · rw [if_neg (znlt (by omega)), if_neg (znle (by omega))]
      exact ⟨s1, rfl, a4⟩
  · intro i k v hp hi h9 h10 hv1 hv2 hk1 hk2
    rw [hp, if_neg (znlt (by omega)), if_pos (zle (by omega))]
    have g83 : (setI s1 12 7 (zi ((i : Int) + 1))).1 8 3 = zi n := h8'
    have g9 : s1.1 9 i = zi k := (congrFun (a4.f (a := 9) rfl (by decide)) i).trans h9
    have g10 : s1.2.1 10 i = zl v := (a4.2.1 10 i rfl).trans h10
    have e34 : f34 (zi ((i : Int) + 1)) (setI s1 12 7 (zi ((i : Int) + 1))) = some (zi k, setI s1 12 7 (zi ((i : Int) + 1))) := by
      unfold f34
      rw [if_neg (znlt (by omega)), g83, if_pos (zle (by omega)), zi_sub, if_pos (zi_ix (by omega) (by omega) (by omega)), zi_nat (by omega) (by omega)]
      have e : ((i : Int) + 1 - 1).toNat = i := by omega
      rw [e]
      show some (s1.1 9 i, _) = _
      rw [g9]
    have g83' : (setI (setI s1 12 7 (zi ((i : Int) + 1))) 12 8 (zi k)).1 8 3 = zi n := h8'
    have e35 : f35 (zi ((i : Int) + 1)) (setI (setI s1 12 7 (zi ((i : Int) + 1))) 12 8 (zi k)) = some (zl v, setI (setI s1 12 7 (zi ((i : Int) + 1))) 12 8 (zi k)) := by
      unfold f35
      rw [if_neg (znlt (by omega)), g83', if_pos (zle (by omega)), zi_sub, if_pos (zi_ix (by omega) (by omega) (by omega)), zi_nat (by omega) (by omega)]
      have e : ((i : Int) + 1 - 1).toNat = i := by omega
      rw [e]
      show some (s1.2.1 10 i, _) = _
      rw [g10]
    rw [e34, zb1_mk, e35, zb1_mk]
    have x6 : (setJ (setI (setI s1 12 7 (zi ((i : Int) + 1))) 12 8 (zi k)) 12 9 (zl v)).1 7 6 = zi cv := (congrFun (a4.f (a := 7) rfl (by decide)) 6).trans hc6
    obtain ⟨g1, g0⟩ := f63_eq (s := setJ (setI (setI s1 12 7 (zi ((i : Int) + 1))) 12 8 (zi k)) 12 9 (zl v)) rfl x6 hk1 hk2 hcv
    have n01 : ¬ zi 1 = zi 0 := zne (by omega)
    refine ⟨setJ (setI (setI s1 12 7 (zi ((i : Int) + 1))) 12 8 (zi k)) 12 9 (zl v), ?_⟩
    have fin : (setJ (setI (setI s1 12 7 (zi ((i : Int) + 1))) 12 8 (zi k)) 12 9 (zl v)).1 12 6 = zi (ordN w ord) ∧ (setJ (setI (setI s1 12 7 (zi ((i : Int) + 1))) 12 8 (zi k)) 12 9 (zl v)).1 12 7 = zi (i + 1 : Nat) ∧ (setJ (setI (setI s1 12 7 (zi ((i : Int) + 1))) 12 8 (zi k)) 12 9 (zl v)).1 12 8 = zi k ∧ (setJ (setI (setI s1 12 7 (zi ((i : Int) + 1))) 12 8 (zi k)) 12 9 (zl v)).2.1 12 9 = zl v ∧ fr [12] [] s (setJ (setI (setI s1 12 7 (zi ((i : Int) + 1))) 12 8 (zi k)) 12 9 (zl v)) := ⟨a2, rfl, rfl, rfl, ((a4.sI (.inl rfl)).sI (.inl rfl)).sJ rfl⟩
    have hcvr := cv_range hcv
    by_cases hg : goes k cv
    · refine ⟨chF k cv v true, ?_, .inl ⟨hg, rfl⟩, fin⟩
      rw [g1 hg, zb1_mk, if_pos n01, show r54 (setJ (setI (setI s1 12 7 (zi ((i : Int) + 1))) 12 8 (zi k)) 12 9 (zl v)) = zi cv from x6]
      show _ = some (zi (if cv = 99 ∧ ¬ (0 ≤ v ∧ v ≤ 1114111) then 10 else 0), _)
      by_cases c99 : cv = 99
      · rw [if_neg (not_not_intro (zeq c99))]
        show (if ¬ (r24 (zl v) _) = zi 0 then _ else _) = _
        unfold r24
        by_cases q1 : v < 0
        · rw [if_pos (zllt (by omega)), if_neg (not_not_intro rfl), if_pos ⟨c99, by omega⟩]
        · rw [if_neg (zlnlt (by omega))]
          by_cases q2 : v > 1114111
          · rw [if_pos (zlgt (by omega)), if_neg (not_not_intro rfl), if_pos ⟨c99, by omega⟩]
          · rw [if_neg (zlngt (by omega)), if_pos n01, if_neg (by omega)]
      · rw [if_pos (zne (by omega)), if_neg (fun h => c99 h.1)]
    · refine ⟨chF k cv v false, ?_, .inr ⟨hg, rfl⟩, fin⟩
      rw [g0 hg, zb1_mk, if_neg (not_not_intro rfl)]
      rfl
/-! the reference's -/
theorem or0 {t : Int} (ht : t = 0 ∨ t = 1) : zi t ||| zi 0 = zi t := by
  rcases ht with rfl | rfl <;> decide
theorem or1 {t : Int} (ht : t = 0 ∨ t = 1) : zi t ||| zi 1 = zi 1 := by
  rcases ht with rfl | rfl <;> decide
theorem m201_256 {s : zS} {k cv v : Int} {i : Nat} (hi : i < 24) (h18 : s.1 24 18 = zi cv) (h31 : s.2.1 31 i = zl v) (hv1 : -9223372036854775808 ≤ v) (hv2 : v < 9223372036854775808) (hk : 0 ≤ k) (hk2 : k ≤ 9) (hc : 97 ≤ cv ∧ cv ≤ 120) :
    f201_256 (zi i) (zi k) (zi 0) s = some (zi 9, s) ∧ f201_256 (zi i) (zi k) (zi 1) s = some (zi (if cv = 99 ∧ 3 ≤ k ∧ k ≤ 5 ∧ ¬ (0 ≤ v ∧ v ≤ 1114111) then 10 else 0), s) := by
  have n01 : ¬ zi 1 = zi 0 := zne (by omega)
  refine ⟨?_, ?_⟩
  · unfold f201_256
    rw [if_neg (not_not_intro rfl)]
  · unfold f201_256
    rw [if_pos n01, h18]
    by_cases c99 : cv = 99
    · rw [if_neg (not_not_intro (zeq c99))]
      by_cases q1 : k < 3
      · rw [if_pos (zlt (by omega)), if_neg (by omega)]
      · rw [if_neg (znlt (by omega))]
        by_cases q2 : k ≥ 6
        · rw [if_pos (zge (by omega)), if_neg (by omega)]
        · rw [if_neg (znge (by omega)), if_pos (zi_ix (by omega) (by omega) (by omega)), show s.2.1 31 (zi (i : Int)).toNatClampNeg = zl v by rw [zi_toNat (by omega)]; exact h31]
          by_cases q3 : v < 0
          · rw [if_pos (zllt (by omega)), if_pos (by omega)]
          · rw [if_neg (zlnlt (by omega)), if_pos (zi_ix (by omega) (by omega) (by omega))]
            by_cases q4 : v ≤ 1114111
            · rw [if_pos (zlle (by omega)), if_neg (by omega)]
            · rw [if_neg (zlnle (by omega)), if_pos (by omega)]
    · rw [if_pos (zne (by omega)), if_neg (fun h => c99 h.1)]
/-- whether it goes, gathered -/
theorem m201_111 {s : zS} {k cv : Int} {i : Nat} (h18 : s.1 24 18 = zi cv) (hk : 0 ≤ k) (hk2 : k ≤ 9) (hcv : isCv cv) : (goes k cv → f201_111 (zi i) (zi k) (zi (if k = 0 ∨ cv = 98 ∨ cv = 115 then 1 else 0)) s = f201_256 (zi i) (zi k) (zi 1) s) ∧ (¬ goes k cv → f201_111 (zi i) (zi k) (zi (if k = 0 ∨ cv = 98 ∨ cv = 115 then 1 else 0)) s = f201_256 (zi i) (zi k) (zi 0) s) := by
  have hc := cv_range hcv
  -- the four steps, each with what it adds
  have e233 : ∀ t : Int, t = 0 ∨ t = 1 → f201_233 (zi i) (zi k) (zi t) s = f201_256 (zi i) (zi k) (zi (if t = 1 ∨ (cv = 116 ∧ k = 6) then 1 else 0)) s := by
    intro t ht
    unfold f201_233
    rw [h18]
    by_cases c : cv = 116
    · rw [if_neg (not_not_intro (zeq c))]
      by_cases k6 : k = 6
      · rw [if_neg (not_not_intro (zeq k6)), or1 ht, if_pos (by omega)]
      · rw [if_pos (zne (by omega)), or0 ht]
        congr 2
        split <;> omega
    · rw [if_pos (zne (by omega))]
      congr 2
      split <;> omega
  have e213 : ∀ t : Int, t = 0 ∨ t = 1 → f201_213 (zi i) (zi k) (zi t) s = f201_233 (zi i) (zi k) (zi (if t = 1 ∨ k = 7 ∨ k = 8 then 1 else 0)) s := by
    intro t ht
    unfold f201_213
    by_cases k7 : k = 7
    · rw [if_pos (zeq k7), or1 ht, if_pos (by omega)]
    · rw [if_neg (zne (by omega))]
      by_cases k8 : k = 8
      · rw [if_neg (not_not_intro (zeq k8)), or1 ht, if_pos (by omega)]
      · rw [if_pos (zne (by omega)), or0 ht]
        congr 2
        split <;> omega
  have e186 : ∀ t : Int, t = 0 ∨ t = 1 → f201_186 (zi i) (zi k) (zi t) s = f201_233 (zi i) (zi k) (zi (if t = 1 ∨ ((cv = 97 ∨ cv = 101 ∨ cv = 102 ∨ cv = 103) ∧ (k = 7 ∨ k = 8)) then 1 else 0)) s := by
    intro t ht
    have e204 : f201_204 (zi i) (zi k) (zi t) s = if cv = 97 then f201_213 (zi i) (zi k) (zi t) s else f201_233 (zi i) (zi k) (zi t) s := by
      unfold f201_204
      rw [h18]
      by_cases c : cv = 97
      · rw [if_neg (not_not_intro (zeq c)), if_pos c]
      · rw [if_pos (zne (by omega)), if_neg c]
    unfold f201_186
    rw [h18, e204]
    by_cases c1 : cv < 101
    · rw [if_pos (zlt (by omega))]
      by_cases c : cv = 97
      · rw [if_pos c, e213 t ht]
        congr 2
        split <;> split <;> omega
      · rw [if_neg c]
        congr 2
        split <;> omega
    · rw [if_neg (znlt (by omega))]
      by_cases c2 : cv ≤ 103
      · rw [if_pos (zle (by omega)), e213 t ht]
        congr 2
        split <;> split <;> omega
      · rw [if_neg (znle (by omega)), if_neg (by omega)]
        congr 2
        split <;> omega
  have e167 : ∀ t : Int, t = 0 ∨ t = 1 → f201_167 (zi i) (zi k) (zi t) s = f201_186 (zi i) (zi k) (zi (if t = 1 ∨ (3 ≤ k ∧ k ≤ 6) then 1 else 0)) s := by
    intro t ht
    unfold f201_167
    by_cases k3 : k < 3
    · rw [if_pos (zlt (by omega)), or0 ht]
      congr 2
      split <;> omega
    · rw [if_neg (znlt (by omega))]
      by_cases k6 : k > 6
      · rw [if_pos (zgt (by omega)), or0 ht]
        congr 2
        split <;> omega
      · rw [if_neg (zngt (by omega)), or1 ht, if_pos (by omega)]
  have e140 : ∀ t : Int, t = 0 ∨ t = 1 → f201_140 (zi i) (zi k) (zi t) s = f201_186 (zi i) (zi k) (zi (if t = 1 ∨ ((cv = 100 ∨ cv = 111 ∨ cv = 120) ∧ 3 ≤ k ∧ k ≤ 6) then 1 else 0)) s := by
    intro t ht
    unfold f201_140
    rw [h18]
    by_cases c1 : cv = 100
    · rw [if_pos (zeq c1), e167 t ht]
      congr 2
      split <;> split <;> omega
    · rw [if_neg (zne (by omega))]
      by_cases c2 : cv = 111
      · rw [if_pos (zeq c2), e167 t ht]
        congr 2
        split <;> split <;> omega
      · rw [if_neg (zne (by omega))]
        by_cases c3 : cv = 120
        · rw [if_neg (not_not_intro (zeq c3)), e167 t ht]
          congr 2
          split <;> split <;> omega
        · rw [if_pos (zne (by omega))]
          congr 2
          split <;> omega
  have e111 : ∀ t : Int, t = 0 ∨ t = 1 → f201_111 (zi i) (zi k) (zi t) s = f201_140 (zi i) (zi k) (zi (if t = 1 ∨ (cv = 99 ∧ 2 ≤ k ∧ k ≤ 5) then 1 else 0)) s := by
    intro t ht
    unfold f201_111
    rw [h18]
    by_cases c1 : cv = 99
    · rw [if_neg (not_not_intro (zeq c1))]
      by_cases k2 : k < 2
      · rw [if_pos (zlt (by omega)), or0 ht]
        congr 2
        split <;> omega
      · rw [if_neg (znlt (by omega))]
        by_cases k6 : k ≥ 6
        · rw [if_pos (zge (by omega)), or0 ht]
          congr 2
          split <;> omega
        · rw [if_neg (znge (by omega)), or1 ht, if_pos (by omega)]
    · rw [if_pos (zne (by omega))]
      congr 2
      split <;> omega
  rw [e111 _ b01, e140 _ b01, e186 _ b01, e233 _ b01]
  have hiff : (((((k = 0 ∨ cv = 98 ∨ cv = 115) ∨ (cv = 99 ∧ 2 ≤ k ∧ k ≤ 5)) ∨ ((cv = 100 ∨ cv = 111 ∨ cv = 120) ∧ 3 ≤ k ∧ k ≤ 6)) ∨ ((cv = 97 ∨ cv = 101 ∨ cv = 102 ∨ cv = 103) ∧ (k = 7 ∨ k = 8))) ∨ (cv = 116 ∧ k = 6)) ↔ goes k cv := by
    unfold goes
    simp only [or_assoc]
  simp only [ite1]
  refine ⟨fun h => ?_, fun h => ?_⟩
  · rw [if_pos (hiff.mpr h)]
  · rw [if_neg (fun h' => h (hiff.mp h'))]
/-- the reference's fault -/
def goesB (k cv : Int) : Bool := k == 0 || cv == 98 || cv == 115 || (cv == 99 && decide (2 ≤ k) && decide (k ≤ 5)) || ((cv == 100 || cv == 111 || cv == 120) && decide (3 ≤ k) && decide (k ≤ 6)) || ((cv == 97 || cv == 101 || cv == 102 || cv == 103) && (k == 7 || k == 8)) || (cv == 116 && k == 6)
theorem goesB_iff (k cv : Int) : goesB k cv = true ↔ goes k cv := by
  unfold goesB goes
  simp [or_assoc, and_assoc]
def mFt (k cv v : Int) : Int := if goesB k cv then (if cv = 99 ∧ 3 ≤ k ∧ k ≤ 5 ∧ ¬ (0 ≤ v ∧ v ≤ 1114111) then 10 else 0) else 9
theorem f201_eq {s : zS} {w ord lat cv : Int} {n : Nat} (h1 : s.1 24 14 = zi w) (hw : -1 ≤ w ∧ w < 10000) (h6 : s.1 24 36 = zi ord) (h7 : s.1 24 37 = zi (lat - 1)) (ho : 0 ≤ ord ∧ ord ≤ 1000) (hl : 0 ≤ lat ∧ lat ≤ 1000) (hc6 : s.1 24 18 = zi cv) (hcv : isCv cv) (h8 : s.1 24 13 = zi n) (hn : n ≤ 24) :
    (¬ (1 ≤ pickN w ord lat ∧ pickN w ord lat ≤ n) → ∃ s', f201 s = some (zi 8, s') ∧ fr [] [35, 36, 37] s s') ∧
    (∀ (i : Nat) (k v : Int), pickN w ord lat = i + 1 → i < n → s.1 29 i = zi k → s.2.1 31 i = zl v → -9223372036854775808 ≤ v → v < 9223372036854775808 → 0 ≤ k → k ≤ 9 →
      ∃ s', f201 s = some (zi (mFt k cv v), s') ∧ s'.1 24 36 = zi (ordN w ord) ∧ s'.1 24 37 = zi (i : Nat) ∧ s'.1 24 35 = zi i ∧ fr [] [35, 36, 37] s s') := by
  have e0 : f201 s = f201_34 (zi (pickN w ord lat - 1)) s := by
    unfold f201 pickN
    rw [h1, h6, h7]
    by_cases q1 : w ≤ 0
    · rw [if_pos (zle (by omega))]
      by_cases q2 : w = 0
      · rw [if_pos (zge (by omega)), if_neg (by omega), if_pos q2]
        congr 2
        omega
      · rw [if_neg (znge (by omega)), if_pos (by omega)]
    · rw [if_neg (znle (by omega)), zi_sub, if_neg (by omega), if_neg (by omega)]
  rw [e0]
  have hpr : -1 ≤ pickN w ord lat ∧ pickN w ord lat < 20000 := by
    unfold pickN
    split
    · omega
    · split <;> omega
  unfold f201_34
  rw [h8]
  refine ⟨fun h => ?_, ?_⟩
  · by_cases q : pickN w ord lat < 1
    · rw [if_pos (zlt (by omega))]
      exact ⟨s, rfl, fr.refl⟩
    · rw [if_neg (znlt (by omega)), if_neg (znlt (by omega))]
      exact ⟨s, rfl, fr.refl⟩
  · intro i k v hp hi h29 h31 hv1 hv2 hk1 hk2
    have hcvr := cv_range hcv
    have ei : pickN w ord lat - 1 = i := by omega
    rw [ei, if_neg (znlt (by omega)), if_pos (zlt (by omega)), h1]
    -- the rest, from a state with the counter set
    have rest : ∀ s1 : zS, fr [] [35, 36, 37] s s1 → s1.1 24 36 = zi (ordN w ord) → ∃ s', f201_67 (zi i) s1 = some (zi (mFt k cv v), s') ∧ s'.1 24 36 = zi (ordN w ord) ∧ s'.1 24 37 = zi (i : Nat) ∧ s'.1 24 35 = zi i ∧ fr [] [35, 36, 37] s s' := by
      intro s1 hf h36
      have g29 : s1.1 29 i = zi k := (congrFun (hf.f (a := 29) rfl (by decide)) i).trans h29
      have g18 : s1.1 24 18 = zi cv := (hf.1 24 18 rfl (fun _ => rfl)).trans hc6
      have g31 : s1.2.1 31 i = zl v := (hf.2.1 31 i rfl).trans h31
      refine ⟨setI (setI s1 24 37 (zi i)) 24 35 (zi i), ?_, h36, rfl, rfl, (hf.sI (.inr ⟨rfl, rfl⟩)).sI (.inr ⟨rfl, rfl⟩)⟩
      have e67 : f201_67 (zi i) s1 = f201_111 (zi i) (zi k) (zi (if k = 0 ∨ cv = 98 ∨ cv = 115 then 1 else 0)) (setI (setI s1 24 37 (zi i)) 24 35 (zi i)) := by
        unfold f201_67
        rw [if_pos (zi_ix (by omega) (by omega) (by omega)), zi_toNat (by omega), g29, g18]
        by_cases k0 : k = 0
        · rw [if_pos (zeq k0), if_pos (Or.inl k0)]
        · rw [if_neg (zne (by omega))]
          by_cases c1 : cv = 98
          · rw [if_pos (zeq c1), if_pos (Or.inr (Or.inl c1))]
          · rw [if_neg (zne (by omega))]
            by_cases c2 : cv = 115
            · rw [if_neg (not_not_intro (zeq c2)), if_pos (Or.inr (Or.inr c2))]
            · rw [if_pos (zne (by omega)), if_neg (by omega)]
      obtain ⟨g1, g0⟩ := m201_111 (s := setI (setI s1 24 37 (zi i)) 24 35 (zi i)) (i := i) g18 hk1 hk2 hcv
      obtain ⟨x0, x1⟩ := m201_256 (s := setI (setI s1 24 37 (zi i)) 24 35 (zi i)) (k := k) (by omega) g18 g31 hv1 hv2 hk1 hk2 hcvr
      rw [e67]
      unfold mFt
      by_cases hg : goes k cv
      · rw [g1 hg, x1, if_pos ((goesB_iff k cv).mpr hg)]
      · rw [g0 hg, x0, if_neg (fun h => hg ((goesB_iff k cv).mp h))]
    by_cases w0 : w = 0
    · rw [if_neg (not_not_intro (zeq w0)), h6, zi_add]
      refine rest _ (fr.refl.sI (.inr ⟨rfl, rfl⟩)) ?_
      unfold ordN
      rw [if_pos w0]
      rfl
    · rw [if_pos (zne (by omega))]
      refine rest s fr.refl ?_
      unfold ordN
      rw [if_neg w0]
      exact h6
