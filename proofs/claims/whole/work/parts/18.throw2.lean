/-! a method ends with an exception of its own -/
section
variable {p : Program} {l : Launch} {e : Env} {R : Room} {s : State} {m : MethodId} {args : Array Value} {below : List Frame} {meth : Method} {c : Code} {H : Heap} {locs : List Loc} {cells slots : Nat} {Q : State → Prop}
variable {B : Nat} {ro : Nat → Value} {D : va_G} {ca : FieldType → ClassId} {s0 : State} {X : mX} {A0 : Array Value} {n0 z0 nL d : Nat} {lsR : Array Slot} {pc : Nat} {ls : mL} {st : List Value} {h h0 : mH} {r : mO × mH} {M : mM}
/-- no cell of the small machine is a class's statics -/
theorem mcell_plain (hP : va_P D mcl (mw B ro ca h) H) {q : Nat} (hq : mAr B h.1.1 q) : ∃ cell, H[q]? = some cell ∧ cell.vm.isStatics = false := by
  obtain ⟨h1, h2⟩ := hq
  obtain ⟨k, rfl⟩ : ∃ k, q = B + k := ⟨q - B, by omega⟩
  have hk : k < h.1.1 := by omega
  have := hP k _ (mw_get hk)
  cases hx : h.2 k with
  | inl a =>
    rw [hx] at this
    refine ⟨_, this, ?_⟩
    show (vp_cell (ca a.1) a.2).vm.isStatics = false
    unfold vp_cell
    split <;> rfl
  | inr o =>
    rw [hx] at this
    obtain ⟨rr, -, cell, q1, q2, q3, -⟩ := this
    exact ⟨cell, q1, by rw [q3]; rfl⟩
theorem mlow (hG : mGF B ro D ca s0 X A0) {U : State} {n : Nat} {L : List Loc} (hS : va_S (mAr B n) s0.heap U.heap L) : ∀ q, q < s0.heap.size → U.heap[q]? = s0.heap[q]? :=
  fun q hq => hS.2.1 q hq (fun z => by have := z.1; have := hG.1; omega)
set_option maxHeartbeats 2000000 in
theorem sim_throw {x j z1 : Nat} {z2 : Int} (hG : mGF B ro D ca s0 X A0) (hF : mFF s0 M p e R s m meth c d (h0.1.1 + h0.1.2.1) h0.1.2.2) (hT : c.exceptionTable.toList.map (fun h => (h.startPc, h.endPc, h.handlerPc, h.catchType)) = M.2.2.2.2.2.2.2) (hlow : ∀ q, q < s0.heap.size → s.heap[q]? = s0.heap[q]?)
    (hi : M.1 pc = some (.new j)) (hk : mlk M.2.1 j = (7, x, z1, z2)) (ha : mthrow M x pc st h = some (.inr (.inr r))) (hR : mR B ro D ca s0 (h0.1.1 + h0.1.2.1) h0.1.2.2 M.2.2.1 ls h H locs lsR cells slots) (hby : mby h) (hm : h0.1.1 ≤ h.1.1) :
    W p l e R s m args below meth c H locs cells slots (mQ B ro D ca s0 h0 r below args s) (F0 m pc lsR (st.map (mtr B ro))) := by
  have hc := mchk_all M.2.1 j
  unfold mchk at hc
  rw [hk] at hc
  simp only [Bool.and_eq_true, decide_eq_true_eq] at hc
  unfold mthrow at ha
  split at ha
  · rename_i j' ic h3 h4 h6 h9
    split at ha
    · rename_i hcond
      obtain ⟨k5, k8, khh, hx4, hcap, hsap⟩ := hcond
      cases ha
      obtain ⟨l0, d0, s0'⟩ := hF.2.2.2.2.2.2.2.1 pc _ hi
      obtain ⟨l3, d3, s3⟩ := hF.2.2.2.2.2.2.2.1 _ _ h3
      obtain ⟨l4, d4, s4⟩ := hF.2.2.2.2.2.2.2.1 _ _ h4
      obtain ⟨l6, d6, s6⟩ := hF.2.2.2.2.2.2.2.1 _ _ h6
      obtain ⟨l9, d9, s9⟩ := hF.2.2.2.2.2.2.2.1 _ _ h9
      obtain rfl := mlen s0' rfl
      obtain rfl := mlen s3 rfl
      obtain rfl := mlen s4 rfl
      obtain rfl := mlen s6 rfl
      obtain rfl := mlen s9 rfl
      have hte : c.exceptionTable.toList = [] := by
        rw [khh] at hT
        exact List.map_eq_nil_iff.mp hT
      have hW0 := hF.2.2.2.2.2.2.1
      obtain ⟨f1, f2, f3, f4, f5, f6⟩ := mez_all hx4
      have hw : ∀ w ∈ mea (mEX x) (meI x) (meB x), w.before args s = true := fun w hw => mword2 hW0 hlow (f2 w hw).1 (hG.2.1 w (f2 w hw).2)
      have hinst := hw (.instantiable (mEX x) 6) (by simp [mea])
      obtain ⟨cX, kX, hcX, hkX, -⟩ := Cond.instantiable_spec (show (Cond.instantiable (mEX x) 6).holds args s none s [] = true from hinst)
      rcases hj' : mlk M.2.1 j' with ⟨q1, jj, y1, y2⟩
      rw [hj'] at k5
      have k5' : q1 = 5 := k5
      subst k5'
      obtain ⟨ms, hms1, hms2⟩ := hG.2.2.2.2.2.2.2.1 _ _ _ _ _ hj'
      have hic := mchk_all M.2.1 ic
      unfold mchk at hic
      rw [k8] at hic
      simp only [Bool.and_eq_true, decide_eq_true_eq] at hic
      have e1 := hR.2.2.2.2.1
      have e2 := hR.2.2.2.2.2
      have r1 := hF.2.2.2.2.2.2.2.2.1
      have r2 := hF.2.2.2.2.2.2.2.2.2.1
      have r3 := hF.2.2.2.2.2.2.2.2.2.2.1
      have r4 := hF.2.2.2.2.2.2.2.2.2.2.2.1
      intro T0 hT0 X0
      have hsz : s.heap.size ≤ H.size := by rw [← hT0]; exact X0.same.2.1
      refine (?_ : W p l e R s m args below meth c H locs cells slots (mQ B ro D ca s0 h0 (.inr x, ((h.1.1, h.1.2.1 + 1, h.1.2.2 + 6), h.2)) below args s) (F0 m pc lsR [])) T0 hT0 X0
      refine W.newcK hF.1 rfl hF.2.2.2.2.1 (mword hG hF (mem_spec hc.2)) hinst (mword hG hF (mey_all hx4).1) rfl d0 (by omega) (by omega) hcX rfl (fun H1 kC hkC g1 g2 g3 => ?_)
      cases Option.some.inj (hkX.symm.trans hkC)
      refine lv_dup hF.1 rfl d3 rfl ?_
      refine va_ldcS hF.1 rfl hF.2.2.2.2.1 (vk_R.warm hW0 hms2) d4 ?_
      intro T hT XX
      have hlt : ∀ q, mAr B h.1.1 q → q < H.size := fun q hq => by
        obtain ⟨cell, q1, -⟩ := mcell_plain hR.2.1 hq
        exact (Array.getElem?_eq_some_iff.mp q1).1
      have hlocs : ∀ y ∈ locs, ∀ cell, s.heap[y.base]? = some cell → cell.vm.isStatics = false := by
        intro y hy cell hcell
        have hA := hR.2.2.1.2.2 y hy
        obtain ⟨cell', q1, q2⟩ := mcell_plain hR.2.1 hA
        obtain ⟨c', q3, q4, -, -⟩ := XX.same.2.2.2.2.2 _ cell hcell
        have q5 : T.heap[y.base]? = some c' := q3
        rw [hT, g3 _ (hlt _ hA), q1] at q5
        cases q5
        rw [q4] at q2
        exact q2
      obtain ⟨U, u1, u2, u3, u4, u5, ⟨ce, u6, u7, u8⟩, u9, u10⟩ := m_ctorThrow XX hF.1 hF.2.2.2.2.2.2.2.2.2.2.2.2.2 hF.2.2.1 f3 f4 f5 f6 hF.2.2.2.2.1 f1 hw (mword hG hF (mem_spec hic.2)) (misRef hW0 hlow hG.2.2.2.2.2.2.2.2.2.2.2.1) (misRef hW0 hlow hG.2.2.2.2.2.2.2.2.2.2.2.2.1) hlocs
        (a := H.size) hcX hkX (by rw [hT]; exact g1) hsz (msg := .ref ms) rfl (g := F0 m (pc + 3 + 1 + 2) lsR [.ref ms, .ref H.size, .ref H.size]) rfl (by rw [hF.2.2.2.1]; exact hR.1.2.1) rfl rfl (rest := []) rfl d6 d9 (by rw [hte]; intro y hy; cases hy) (by omega) (by show 2 * 0 + (1 + 0) + 81 ≤ R.locals; omega)
      obtain ⟨kU, hkU, -⟩ := u4.alike.2.2 _ _ hkX
      have hold : ∀ q, q < H.size → U.heap[q]? = H[q]? := fun q hq => by rw [u9 q (Nat.ne_of_lt hq), hT, g3 q hq]
      refine ⟨U, u1, .threw H.size, u2, u3, ⟨H.size, ce, kU, rfl, u6, by rw [u8]; rfl, ?_, ?_, hx4⟩, ⟨State.WarmedH.trans hW0 u4, ?_, ⟨?_, fun q q1 q2 => ?_, fun y hy => by cases hy⟩, fun q => by cases q⟩, ⟨hcap, hsap, hby⟩, hm, locs, cells + 1, slots + 6, u4, u5, fun y hy => hR.2.2.1.2.2 y hy, by simp only; omega, by simp only; omega⟩
      · rw [u4.alike.findClass, u7]; exact hcX
      · rw [u7]; exact hkU
      · refine hR.2.1.kept (fun k y hy => ?_)
        exact hold _ (hR.2.1 k y hy).lt
      · have := hR.2.2.1.1
        rw [u10, hT]
        omega
      · rw [hold q (Nat.lt_of_lt_of_le q1 hR.2.2.1.1)]
        exact hR.2.2.1.2.1 q q1 q2
    · cases ha
  · cases ha
end
