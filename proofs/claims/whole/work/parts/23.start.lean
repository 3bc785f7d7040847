/-! the law's start -/
theorem mro_cases {X : mX} {i : Nat} {x : mC} (h : mro X i = some x) : (i = 0 ∧ x = .inl (.int, X.1, .inl X.2)) ∨ (i = 1 ∧ x = .inl (.long, 19, .inr (.inl mTens))) ∨
    ∃ j, j < 78 ∧ ((i = 3 + 2 * j ∧ x = .inr (14, [.ref (mRO + i + 1), .int 0])) ∨ (i = 4 + 2 * j ∧ x = .inl (.byte, mlenS j, .inl (fun k => (mSB.getD j []).getD k 0)))) := by
  have hl : mSB.length = 78 := by decide +kernel
  unfold mro at h
  cases h1 : Nat.beq i 0 with
  | true =>
    rw [h1, cond_true] at h
    cases h
    exact Or.inl ⟨Nat.eq_of_beq_eq_true h1, rfl⟩
  | false =>
    rw [h1, cond_false] at h
    cases h2 : Nat.beq i 1 with
    | true =>
      rw [h2, cond_true] at h
      cases h
      exact Or.inr (Or.inl ⟨Nat.eq_of_beq_eq_true h2, rfl⟩)
    | false =>
      rw [h2, cond_false] at h
      cases h3 : Nat.blt i 3 with
      | true => rw [h3, cond_true] at h; cases h
      | false =>
        rw [h3, cond_false] at h
        have hi : 3 ≤ i := by
          rcases Nat.lt_or_ge i 3 with q | q
          · have : Nat.blt i 3 = true := Nat.ble_eq_true_of_le q
            rw [this] at h3; cases h3
          · exact q
        cases h4 : Nat.blt ((i - 3) / 2) mSB.length with
        | false => rw [h4, cond_false] at h; cases h
        | true =>
          rw [h4, cond_true] at h
          have hj : (i - 3) / 2 < 78 := by
            have := Nat.le_of_ble_eq_true (show Nat.ble ((i - 3) / 2 + 1) mSB.length = true from h4)
            rw [hl] at this
            exact this
          refine Or.inr (Or.inr ⟨(i - 3) / 2, hj, ?_⟩)
          cases h5 : Nat.beq ((i - 3) % 2) 0 with
          | true =>
            rw [h5, cond_true] at h
            cases h
            have := Nat.eq_of_beq_eq_true h5
            exact Or.inl ⟨by omega, rfl⟩
          | false =>
            rw [h5, cond_false] at h
            cases h
            have : ¬ (i - 3) % 2 = 0 := fun q => by rw [q] at h5; cases h5
            exact Or.inr ⟨by omega, rfl⟩
theorem mstart {s : State} {b L : Nat} {xs : Nat → Int32} (hts : ∀ w ∈ lw_tbl, w.before #[Value.ref b] s = true) (hX : va_X b L xs s s.heap) (hbl : b < s.heap.size) (hgv : (Jvm.Cond.and given_1 narrow_1).before #[Value.ref b] s = true) :
    ∃ (ro : Nat → Value) (D : va_G) (ca : FieldType → ClassId), mGF s.heap.size ro D ca s (L, xs) #[Value.ref b] ∧ ro 0 = .ref b := by
  have hA : ∀ a : Nat, a < s.heap.size → ¬ (fun q => s.heap.size ≤ q) a := fun a h1 h2 => Nat.not_le.mpr h1 h2
  have hn : ∀ w ∈ mnf, w.before #[Value.ref b] s = true := fun w hw => flat_of_before _ hgv w (List.mem_append_right _ hw)
  -- the literals
  have hlit : ∀ c : Nat, ∃ av : Nat × Nat, c < 78 → (mtmS c).eval #[Value.ref b] s none [] s = some (.ref av.1) ∧ va_O "java/lang/String" av.1 (fun q => s.heap.size ≤ q) s s.heap ∧ va_OF "java/lang/String" "coder" "B" (.int 0) av.1 (fun q => s.heap.size ≤ q) s s.heap ∧ va_OF "java/lang/String" "value" "[B" (.ref av.2) av.1 (fun q => s.heap.size ≤ q) s s.heap ∧ va_T .byte av.2 (mlenS c) (fun j => .int ((mSB.getD c []).getD j 0)) (fun q => s.heap.size ≤ q) s s.heap := by
    intro c
    by_cases hc : c < 78
    · obtain ⟨h1, h2⟩ := mstw_in hc
      have w1 := hn _ (h1 (.exactly (mtmS c) "java/lang/String") (by simp [mstw]))
      have w2 := hn _ (h1 (.eq (.field (mtmS c) "java/lang/String" "coder" "B") (.int 0)) (by simp [mstw]))
      have w3 := hn _ (h1 (.arrayOf (mtmV c) .byte) (by simp [mstw]))
      have w4 := hn _ (h1 (.eq (.length (mtmV c)) (.int (Int32.ofNat (mlenS c)))) (by simp [mstw]))
      have w5 : ∀ j, j < mlenS c → (Cond.eq (.elem (mtmV c) (.int (Int32.ofNat j))) (.int ((mSB.getD c []).getD j 0))).before #[Value.ref b] s = true := fun j hj => hn _ (h1 _ (List.mem_append_right _ (List.mem_map.mpr ⟨j, List.mem_range.mpr hj, rfl⟩)))
      obtain ⟨a, c2, cA, kA, q1, -⟩ := Cond.exactly_spec (args := #[Value.ref b]) (first := s) (o := none) (s := s) (idx := []) w1
      obtain ⟨v, q2, q3⟩ := va_Tof (N := mlenS c) (f := fun j => .int ((mSB.getD c []).getD j 0)) (A := fun q => s.heap.size ≤ q) (by omega) w3 (va_eqt w4) (fun j hj => va_eqt (w5 j hj)) hA
      exact ⟨(a, v), fun _ => ⟨q1, va_Oof w1 q1 hA, vk_OFof q1 (va_eqt w2) hA, vk_OFof q1 q2 hA, q3⟩⟩
    · exact ⟨(0, 0), fun q => absurd q hc⟩
  obtain ⟨fK, hK⟩ := Classical.axiomOfChoice hlit
  -- the powers of ten
  obtain ⟨tt, ht1, ht2⟩ := va_Tof (tm := mtmT) (ty := .long) (N := 19) (f := fun j => .long (mTens j)) (A := fun q => s.heap.size ≤ q) (by decide) (hn _ (mtw_in (.arrayOf mtmT .long) (by simp [mtw]))) (va_eqt (hn _ (mtw_in (.eq (.length mtmT) (.int (Int32.ofNat 19))) (by simp [mtw])))) (fun j hj => va_eqtl (hn _ (mtw_in _ (List.mem_append_right _ (List.mem_map.mpr ⟨j, List.mem_range.mpr hj, rfl⟩))))) hA
  have hzT := va_Zref (A := fun q => s.heap.size ≤ q) (hts _ mzs4.1) (hts _ mzs4.2) ht1 hA
  have hzC := va_Zof (A := fun q => s.heap.size ≤ q) (hts _ mzs2.1) (hts _ mzs2.2) (va_eqi (z := 1) (hn _ (mow_in _ (by simp [mow])))) hA
  obtain ⟨fm, hfm, hzF⟩ : ∃ fm : Value, (fm = .null ∨ ∃ a, fm = .ref a) ∧ va_Z "jdk/internal/util/Preconditions" "SIOOBE_FORMATTER" "Ljava/util/function/BiFunction;" fm (fun q => s.heap.size ≤ q) s s.heap := by
    rcases va_Zqof (A := fun q => s.heap.size ≤ q) (hts _ mzs3.1) (hts _ mzs3.2) (hn _ (mow_in _ (by simp [mow]))) hA with q | ⟨t, q⟩
    · exact ⟨.null, Or.inl rfl, q⟩
    · exact ⟨.ref t, Or.inr ⟨t, rfl⟩, q⟩
  have hzU := va_Zqof (C := "java/lang/Throwable") (n := "UNASSIGNED_STACK") (d := "[Ljava/lang/StackTraceElement;") (A := fun q => s.heap.size ≤ q) (hts _ mzs0.1) (hts _ mzs0.2) (hn _ (mow_in _ (by simp [mow]))) hA
  have hzS := va_Zqof (C := "java/lang/Throwable") (n := "SUPPRESSED_SENTINEL") (d := "Ljava/util/List;") (A := fun q => s.heap.size ≤ q) (hts _ mzs1.1) (hts _ mzs1.2) (hn _ (mow_in _ (by simp [mow]))) hA
  -- the classes
  have hcl : ∀ ci : Nat, ∃ di : ClassId × (Nat → Nat), ci < 14 → u_Kn s (mCN ci) (mTT ci) (mNF ci) di.1 di.2 := by
    intro ci
    by_cases hc : ci < 14
    · obtain ⟨cC, iS, hk⟩ := u_known (ws := u_ws (mCN ci) (mTT ci) (mNF ci)) (fun w hw => hts w (mcz_in hc w hw).1) (fun w hw => hw) (hts _ (mcz_inst hc).1)
      exact ⟨(cC, iS), fun _ => hk⟩
    · exact ⟨(0, fun _ => 0), fun q => absurd q hc⟩
  obtain ⟨dd, hdd⟩ := Classical.axiomOfChoice hcl
  have har : ∀ ty : FieldType, ∃ cA : ClassId, (ty = .int ∨ ty = .byte ∨ ty = .long) → ArrOfT s cA ty ∧ va_RA s cA ty := by
    intro ty
    by_cases hty : ty = .int ∨ ty = .byte ∨ ty = .long
    · obtain ⟨c, k, comp, h1, h2, h3⟩ := Cond.arrayClass_spec (hts _ (mArC ty hty))
      refine ⟨c, fun _ => ⟨fun n z => ⟨fun k h => (by cases h), k, h2, comp, h3⟩, ?_⟩⟩
      rcases hty with rfl | rfl | rfl <;> exact h1
    · exact ⟨0, fun q => absurd q hty⟩
  obtain ⟨ca, hca⟩ := Classical.axiomOfChoice har
  refine ⟨fun i => if i = 0 then .ref b else if i = 1 then .ref tt else if i = 2 then fm else if (i - 3) % 2 = 0 then .ref (fK ((i - 3) / 2)).1 else .ref (fK ((i - 3) / 2)).2, (fun c => (dd c).1, fun c => (dd c).2), ca, ?_, rfl⟩
  generalize hro : (fun i : Nat => if i = 0 then Value.ref b else if i = 1 then .ref tt else if i = 2 then fm else if (i - 3) % 2 = 0 then .ref (fK ((i - 3) / 2)).1 else .ref (fK ((i - 3) / 2)).2) = ro
  have r0 : ro 0 = .ref b := by rw [← hro]; rfl
  have r1 : ro 1 = .ref tt := by rw [← hro]; rfl
  have r2 : ro 2 = fm := by rw [← hro]; rfl
  have rK : ∀ j, ro (3 + 2 * j) = .ref (fK j).1 := by
    intro j
    rw [← hro]
    show (if 3 + 2 * j = 0 then _ else if 3 + 2 * j = 1 then _ else if 3 + 2 * j = 2 then _ else if (3 + 2 * j - 3) % 2 = 0 then Value.ref (fK ((3 + 2 * j - 3) / 2)).1 else _) = _
    rw [if_neg (by omega), if_neg (by omega), if_neg (by omega), if_pos (by omega), show (3 + 2 * j - 3) / 2 = j by omega]
  have rV : ∀ j, ro (4 + 2 * j) = .ref (fK j).2 := by
    intro j
    rw [← hro]
    show (if 4 + 2 * j = 0 then _ else if 4 + 2 * j = 1 then _ else if 4 + 2 * j = 2 then _ else if (4 + 2 * j - 3) % 2 = 0 then _ else Value.ref (fK ((4 + 2 * j - 3) / 2)).2) = _
    rw [if_neg (by omega), if_neg (by omega), if_neg (by omega), if_neg (by omega), show (4 + 2 * j - 3) / 2 = j by omega]
  refine ⟨rfl, hts, ⟨fun c q hq => ?_, fun k q hq => ?_⟩, fun i => ?_, ?_, ?_, ?_, ?_, ⟨tt, r1, hzT⟩, hzC, by rw [r2]; exact hzF, hzU, hzS, fun x y hx hy hne => va_Nc.of (hn _ (mnc_in hx hy hne))⟩
  · have hc : c < 14 := (List.getElem?_eq_some_iff.mp hq).1
    cases (mcz_all c hc).1.symm.trans hq
    exact hdd c hc
  · match k, hq with
    | 0, hq => cases hq; exact hca .int (Or.inl rfl)
    | 1, hq => cases hq; exact hca .byte (Or.inr (Or.inl rfl))
    | 2, hq => cases hq; exact hca .long (Or.inr (Or.inr rfl))
    | k + 3, hq => cases hq
  · rw [← hro]
    simp only
    split
    · exact Or.inr ⟨_, rfl⟩
    · split
      · exact Or.inr ⟨_, rfl⟩
      · split
        · exact hfm
        · split <;> exact Or.inr ⟨_, rfl⟩
  · intro i ty n f hm
    rcases mro_cases hm with ⟨rfl, q⟩ | ⟨rfl, q⟩ | ⟨j, hj, ⟨rfl, q⟩ | ⟨rfl, q⟩⟩
    · cases q
      obtain ⟨scr, h1, h2, h3, h4, h5⟩ := hX
      exact ⟨b, r0, scr, h1, h2, h3, Nat.le_of_eq h4.symm, by rw [h4], h5, hA b hbl⟩
    · cases q
    · cases q
    · cases q
      exact ⟨_, rV j, (hK j hj).2.2.2.2⟩
  · intro i ty n f hm
    rcases mro_cases hm with ⟨rfl, q⟩ | ⟨rfl, q⟩ | ⟨j, hj, ⟨rfl, q⟩ | ⟨rfl, q⟩⟩
    · cases q
    · cases q
      exact ⟨tt, r1, ht2⟩
    · cases q
    · cases q
  · intro i fs hm
    rcases mro_cases hm with ⟨rfl, q⟩ | ⟨rfl, q⟩ | ⟨j, hj, ⟨rfl, q⟩ | ⟨rfl, q⟩⟩
    · cases q
    · cases q
    · cases q
      obtain ⟨k1, k2, k3, k4, k5⟩ := hK j hj
      refine ⟨_, rK j, k2, fun k v hv => ?_⟩
      match k, hv with
      | 0, hv =>
        cases hv
        rw [mtr_ge (by omega), show mRO + (3 + 2 * j) + 1 - mRO = 4 + 2 * j by omega, rV]
        exact k4
      | 1, hv => cases hv; exact k3
      | k + 2, hv => cases hv
    · cases q
  · intro o i j z1 z2 hm
    obtain ⟨g1, g2, g3⟩ := msc_all hm
    have hc := mchk_all o i
    unfold mchk at hc
    rw [hm] at hc
    simp only [Bool.and_eq_true, decide_eq_true_eq] at hc
    refine ⟨_, rK j, ?_⟩
    have h1 := (hK j g3).1
    unfold mtmS at h1
    rw [g1, g2] at h1
    exact vk_R.of (hts _ (memN_spec hc.2)) h1
