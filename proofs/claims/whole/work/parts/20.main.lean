/-! THE SIMULATION, by induction on the small machine's fuel -/
def mkz (k : Nat) : Bool := match mtl[k]? with
  | some M => Nat.beq k 256 || (decide (mSK k = M.2.2.2.2.2.2.1) && decide (mIN k = (M.2.2.2.2.1.name == "<init>")) && (!mIN k || (M.2.2.2.2.2.2.2.isEmpty && decide (M.2.2.2.1 = none) && !mSK k)))
  | none => true
set_option maxRecDepth 100000 in
theorem mkz_all : (List.range 270).all mkz = true := by decide +kernel
theorem mtl_len : mtl.length = 270 := by decide +kernel
theorem mkz_of {k : Nat} {M : mM} (h : mtab k = some M) (hk : ¬ k = 256) : mSK k = M.2.2.2.2.2.2.1 ∧ mIN k = (M.2.2.2.2.1.name == "<init>") ∧ (mIN k = true → M.2.2.2.2.2.2.2.isEmpty = true ∧ M.2.2.2.1 = none ∧ mSK k = false) := by
  have h' : mtl[k]? = some M := h
  have hl : k < mtl.length := (List.getElem?_eq_some_iff.mp h').1
  rw [mtl_len] at hl
  have h1 := List.all_eq_true.mp mkz_all k (List.mem_range.mpr hl)
  unfold mkz at h1
  rw [h'] at h1
  simp only [Bool.or_eq_true, Bool.and_eq_true, decide_eq_true_eq, Bool.not_eq_true'] at h1
  rcases h1 with h1 | ⟨⟨h1, h2⟩, h3⟩
  · exact absurd (Nat.eq_of_beq_eq_true h1) hk
  · refine ⟨h1, h2, fun q => ?_⟩
    rcases h3 with h3 | ⟨⟨h3, h4⟩, h5⟩
    · rw [q] at h3; cases h3
    · exact ⟨h3, h4, h5⟩
section
variable {p : Program} {l : Launch} {e : Env} {R : Room} {s : State} {m : MethodId} {args : Array Value} {below : List Frame} {meth : Method} {c : Code} {H : Heap} {locs : List Loc} {cells slots : Nat} {Q : State → Prop}
variable {B : Nat} {ro : Nat → Value} {D : va_G} {ca : FieldType → ClassId} {s0 : State} {X : mX} {A0 : Array Value} {n0 z0 nL d : Nat} {lsR : Array Slot} {pc : Nat} {ls : mL} {st : List Value} {h h0 : mH} {r : mO × mH} {M : mM}
theorem mcall_spec {k' n k : Nat} {as rest : List Value} (ha : mcall k' n st = some (.inr (.inl (k, as, rest)))) : k = k' ∧ n ≤ st.length ∧ as = (st.take n).reverse ∧ rest = st.drop n ∧ (rest.map fun v => v.category).sum ≤ 8 := by
  unfold mcall at ha
  split at ha
  · rename_i hc
    cases ha
    exact ⟨rfl, hc.1, rfl, rfl, hc.2⟩
  · cases ha
theorem mtake_last {n : Nat} {v : Value} (h1 : 1 ≤ n) (hn : n ≤ st.length) (hv : st[n - 1]? = some v) : (st.take n).reverse = v :: (st.take (n - 1)).reverse ∧ st = (st.take (n - 1)) ++ v :: st.drop n := by
  obtain ⟨k, rfl⟩ : ∃ k, n = k + 1 := ⟨n - 1, by omega⟩
  simp only [Nat.add_sub_cancel] at hv ⊢
  have e1 : st.take (k + 1) = st.take k ++ [v] := by rw [List.take_succ, hv]; rfl
  refine ⟨by rw [e1]; simp, ?_⟩
  have e2 := List.take_append_drop (k + 1) st
  rw [e1] at e2
  simpa using e2.symm
/-- a method's words at an invocation -/
theorem mwords {k : Nat} {M' : mM} {a : Array Value} {U : State} (hG : mGF B ro D ca s0 X A0) (hM : mMF k M') (hW : s0.WarmedH U.vm) : (mcw M').before a U = true ∧ (Cond.initialized M'.2.2.2.2.1.cls).before a U = true ∧ (M'.2.2.2.2.1.cls ≠ "java/lang/invoke/MethodHandle" ∧ M'.2.2.2.2.1.cls ≠ "java/lang/invoke/VarHandle") ∧ M'.2.2.1 ≤ 30 ∧ M'.2.2.2.2.1.cls = mCN M'.2.1 ∧
    (M'.2.2.2.2.2.2.1 = true → (Cond.static M'.2.2.2.2.1).before a U = true) ∧ (M'.2.2.2.2.2.2.1 = false → (Cond.instanceMethod M'.2.2.2.2.1).before a U = true) ∧ (M'.2.2.2.2.2.2.1 = false → ¬ M'.2.2.2.2.1.name = "<init>" → (Cond.selects M'.2.2.2.2.1.cls M'.2.2.2.2.1 M'.2.2.2.2.1).before a U = true) ∧
    ∀ sig, parseMethodDescriptor M'.2.2.2.2.1.desc = some sig → sig.parameters.length + (bif M'.2.2.2.2.2.2.1 then 0 else 1) = mNA k := by
  obtain ⟨⟨q0, hq0⟩, hy, ⟨q, hq⟩, -⟩ := hM
  simp only [mmk, Bool.and_eq_true, decide_eq_true_eq] at hq
  obtain ⟨⟨⟨⟨⟨⟨k1, k2⟩, k3⟩, k4⟩, k5⟩, k6⟩, k7⟩ := hq
  have hg : ∀ {w : Cond}, w ∈ lw_tbl ∧ goodWord w = true → w.before a U = true := fun hw => word_at hW (good_of_word hw.2) (hG.2.1 _ hw.1)
  rw [hy]
  obtain ⟨qc, hqc⟩ := mck_all M'.2.1 k5
  simp only [mck, Bool.and_eq_true, decide_eq_true_eq] at hqc
  refine ⟨hg ⟨mtp_in (List.mem_of_getElem? hq0), ?_⟩, by rw [k3]; exact hg (mem_spec hqc.1), by rw [k3]; exact hqc.2, k4, k3, fun hs => ?_, fun hs => ?_, fun hs hn => ?_, fun sig hsig => ?_⟩
  · unfold mcw
    cases M'.2.2.2.2.2.2.2.isEmpty <;> rfl
  · rw [hs, cond_true] at k1
    exact hg (mem_spec k1)
  · rw [hs, cond_false] at k1
    exact hg (mem_spec k1)
  · rw [hs] at k7
    simp only [Bool.false_or, Bool.or_eq_true, beq_iff_eq] at k7
    rcases k7 with k7 | k7
    · exact absurd k7 hn
    · cases hb : Nat.beq q.2.1 0 with
      | true =>
        rw [hb, cond_true] at k7
        have k8 := of_decide_eq_true k7
        obtain ⟨z, hz, e1⟩ := Option.map_eq_some_iff.mp k8
        have hmem : Cond.selects (mY k).cls (mY k) (mY k) ∈ lw_tbl := by
          refine List.mem_append_left _ ?_
          rw [← e1]
          exact List.mem_map.mpr ⟨z, List.mem_of_getElem? hz, rfl⟩
        exact hg ⟨hmem, rfl⟩
      | false =>
        rw [hb, cond_false] at k7
        exact hg (mem_spec k7)
  · rw [hsig] at k6
    exact Option.some.inj k6
theorem mstk {n : Nat} (T : Value → Value) : st.map T = (((st.take n).reverse).map T).reverse ++ (st.drop n).map T := by
  rw [List.map_reverse, List.reverse_reverse, ← List.map_append, List.take_append_drop]
set_option maxHeartbeats 4000000 in
theorem m_inv {i : Instr} {k : Nat} {as rest : List Value} {M' : mM} (hG : mGF B ro D ca s0 X A0) (hF : mFF s0 M p e R s m meth c d n0 z0) (hi : M.1 pc = some i) (ha : mact X M i pc ls st h = some (.inr (.inl (k, as, rest)))) (hM' : mtab k = some M') (hR : mR B ro D ca s0 n0 z0 M.2.2.1 ls h H locs lsR cells slots)
    {T : State} (hT : T.heap = H) (XX : Stand p l e R s m args below meth c T locs cells slots) :
    ¬ k = 256 ∧ (rest.map fun v => v.category).sum ≤ 8 ∧ decode c.code pc = .ok (i, 3) ∧ mInv p l e R s m args below meth c T locs cells slots M'.2.2.2.2.1 (F0 m pc lsR (st.map (mtr B ro))) (as.map (mtr B ro)).toArray (rest.map (mtr B ro)) := by
  obtain ⟨len, hd, hsl⟩ := hF.2.2.2.2.2.2.2.1 pc i hi
  have hW0 := hF.2.2.2.2.2.2.1
  cases i
  case invokestatic j =>
    obtain rfl := mlen hsl rfl
    simp only [mact] at ha
    split at ha
    · rename_i k' n z hk
      unfold mcallS at ha
      split at ha
      · rename_i hs
        obtain ⟨rfl, hn, rfl, rfl, hsum⟩ := mcall_spec ha
        have hc := mchk_all M.2.1 j
        unfold mchk at hc
        rw [hk] at hc
        simp only [Bool.and_eq_true, decide_eq_true_eq] at hc
        obtain ⟨hc1, hc2, hc3⟩ := hc
        have hMF := mMF_of hM' hc3
        obtain ⟨y1, y2, y3⟩ := mkz_of hM' hc3
        obtain ⟨w1, w2, w3, w4, w5, w6, w7, w8, w9⟩ := mwords (a := args) hG hMF hW0
        refine ⟨hc3, hsum, hd, mInvS XX hF.1 hF.2.2.2.2.1 (by rw [hMF.2.1]; exact mword hG hF (mem_spec hc1)) (w6 (by rw [← y1]; exact hs)) w2 w1 w3 rfl ?_ (mstk (n := n) _) hd⟩
        intro sig hsig
        have := w9 sig hsig
        rw [← y1, hs, cond_true] at this
        simp only [List.length_map, List.length_reverse, List.length_take]
        omega
      · cases ha
    · simp only [mcopy, mgo] at ha
      repeat' split at ha
      all_goals cases ha
    · cases ha
  case invokevirtual j =>
    obtain rfl := mlen hsl rfl
    simp only [mact] at ha
    split at ha
    · rename_i k' n z hk
      unfold mcallV at ha
      split at ha
      · rename_i a hv
        split at ha
        · rename_i ci fs M2 hx hM2
          split at ha
          · rename_i hcond
            obtain ⟨hci, hn1, hs, hin⟩ := hcond
            obtain ⟨rfl, hn, rfl, rfl, hsum⟩ := mcall_spec ha
            cases hM'.symm.trans hM2
            have hc := mchk_all M.2.1 j
            unfold mchk at hc
            rw [hk] at hc
            simp only [Bool.and_eq_true, decide_eq_true_eq] at hc
            obtain ⟨hc1, hc2, hc3⟩ := hc
            have hMF := mMF_of hM' hc3
            obtain ⟨y1, y2, y3⟩ := mkz_of hM' hc3
            obtain ⟨w1, w2, w3, w4, w5, w6, w7, w8, w9⟩ := mwords (a := args) hG hMF hW0
            obtain ⟨t1, t2⟩ := mtake_last hn1 hn hv
            have hnm : ¬ M'.2.2.2.2.1.name = "<init>" := by
              intro q
              rw [q] at y2
              rw [hin] at y2
              exact absurd y2 (by decide)
            have hrec : ∃ (b : Nat) (cell : Cell), mtr B ro (.ref a) = .ref b ∧ H[b]? = some cell ∧ cell.vm.isStatics = false ∧ s.vm.findClass M'.2.2.2.2.1.cls = some cell.cls := by
              rw [w5, ← hci]
              rcases mget_cases hx with ⟨g1, g2, g3⟩ | ⟨g1, g2⟩
              · have he : (mw B ro ca h)[a]? = some (B + a, .inr (ci, fs.map (mtr B ro))) := by rw [mw_get g2, g3]; rfl
                have hcl : ci < 14 := by
                  obtain ⟨rr, hr, -⟩ := hR.2.1 a _ he
                  exact (List.getElem?_eq_some_iff.mp hr).1
                obtain ⟨cell, q1, q2, q3⟩ := va_recv (hG.K hF) hR.2.1 (mcz_all ci hcl).1 he
                exact ⟨B + a, cell, mtr_lt g1, q1, q2, q3⟩
              · have := mro_obj g2
                subst this
                obtain ⟨b, hb, hO, -⟩ := hG.2.2.2.2.2.2.1 _ _ g2
                obtain ⟨cell, q1, q2, q3, q4⟩ := va_O.moved hW0.alike hO
                exact ⟨b, cell, by rw [mtr_ge g1, hb], by rw [hR.2.2.1.2.1 b (Array.getElem?_eq_some_iff.mp q1).1 (fun z => q4 z.1)]; exact q1, q2, q3⟩
            obtain ⟨b, cell, e1, e2, e3, e4⟩ := hrec
            have e5 : ((st.take n).reverse.map (mtr B ro)).toArray = (Value.ref b :: ((st.take (n - 1)).reverse.map (mtr B ro))).toArray := by
              rw [t1, List.map_cons, e1]
            rw [e5]
            refine ⟨hc3, hsum, hd, mInvV XX hF.1 hF.2.2.2.2.1 (by rw [hMF.2.1]; exact mword hG hF (mem_spec hc1)) (w7 (by rw [← y1]; exact hs)) (w8 (by rw [← y1]; exact hs) hnm) w1 w3 (by rw [hT]; exact e2) e3 e4 rfl ?_ ?_ hd⟩
            · intro sig hsig
              have := w9 sig hsig
              rw [← y1, hs, cond_false] at this
              simp only [List.length_map, List.length_reverse, List.length_take]
              omega
            · show st.map (mtr B ro) = _
              rw [t2]
              simp only [List.map_append, List.map_cons, e1, List.map_reverse, List.reverse_reverse]
              rw [← t2]
          · cases ha
        · cases ha
      · cases ha
    · cases ha
  case invokespecial j =>
    obtain rfl := mlen hsl rfl
    have key : ∀ k' n, mcallI k' n st = some (.inr (.inl (k, as, rest))) → (¬ k' = 256 → (Cond.methodLink (mCN M.2.1) j (mY k')).before args s = true ∨ ∃ host, (Cond.methodLinkNest (mCN M.2.1) j (mY k') host).before args s = true) → n = mNA k' ∧ ¬ k' = 256 → ¬ k = 256 ∧ (rest.map fun v => v.category).sum ≤ 8 ∧ decode c.code pc = .ok (.invokespecial j, milen (.invokespecial j)) ∧ mInv p l e R s m args below meth c T locs cells slots M'.2.2.2.2.1 (F0 m pc lsR (st.map (mtr B ro))) (as.map (mtr B ro)).toArray (rest.map (mtr B ro)) := by
      intro k' n ha hlink hc
      unfold mcallI at ha
      split at ha
      · rename_i a hv
        split at ha
        · rename_i hcond
          obtain ⟨hlt, hn1, hin⟩ := hcond
          obtain ⟨rfl, hn, rfl, rfl, hsum⟩ := mcall_spec ha
          obtain ⟨hc2, hc3⟩ := hc
          have hMF := mMF_of hM' hc3
          obtain ⟨y1, y2, y3⟩ := mkz_of hM' hc3
          obtain ⟨x1, x2, x3⟩ := y3 hin
          obtain ⟨w1, w2, w3, w4, w5, w6, w7, w8, w9⟩ := mwords (a := args) hG hMF hW0
          obtain ⟨t1, t2⟩ := mtake_last hn1 hn hv
          have hnm : M'.2.2.2.2.1.name = "<init>" := by
            rw [hin] at y2
            exact eq_of_beq y2.symm
          have e5 : ((st.take n).reverse.map (mtr B ro)).toArray = (Value.ref (B + a) :: ((st.take (n - 1)).reverse.map (mtr B ro))).toArray := by
            rw [t1, List.map_cons, mtr_lt hlt]
          rw [e5]
          refine ⟨hc3, hsum, hd, mInvI XX hF.1 x1 x2 hF.2.2.2.2.1 hnm (by rw [hMF.2.1]; exact hlink hc3) (w7 (by rw [← y1]; exact x3)) w1 w3 rfl ?_ ?_ hd⟩
          · intro sig hsig
            have := w9 sig hsig
            rw [← y1, x3, cond_false] at this
            simp only [List.length_map, List.length_reverse, List.length_take]
            omega
          · show st.map (mtr B ro) = _
            rw [t2]
            simp only [List.map_append, List.map_cons, mtr_lt hlt, List.map_reverse, List.reverse_reverse]
            rw [← t2]
        · cases ha
      · cases ha
    have hc := mchk_all M.2.1 j
    unfold mchk at hc
    simp only [mact] at ha
    split at ha
    · rename_i k' n z hk
      rw [hk] at hc
      simp only [Bool.and_eq_true, decide_eq_true_eq] at hc
      exact key k' n ha (fun _ => Or.inl (mword hG hF (mem_spec hc.1))) hc.2
    · rename_i k' n z hk
      rw [hk] at hc
      simp only [Bool.and_eq_true, decide_eq_true_eq] at hc
      exact key k' n ha (fun _ => Or.inr ⟨_, va_Nw.use rfl (va_Nw.warmM hW0 (va_Nw.of rfl (hG.2.1 _ (memN_spec hc.1))))⟩) hc.2
    · split at ha
      · split at ha <;> cases ha
      · cases ha
    · cases ha
  all_goals (exfalso; simp only [mact, mgo, mldc, mildI, mildL, mildA, mistI, mistL, mistA, m1i, m1l, m2i, m2l, m2j, mdvi, mdvl, mjmp, mgetf, mputf, mgets, mnewo, mnewa, mthrow, mfin, mald, mlald, mast, mlast, malen, mif1, mif2, Bool.cond_eq_ite] at ha)
  all_goals (repeat' split at ha)
  all_goals (cases ha)
end
