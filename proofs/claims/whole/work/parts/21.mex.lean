/-! THE SIMULATION -/
set_option maxRecDepth 20000 in
theorem mroom_le {a b c d' : Nat} (h1 : a ≤ 8) (h2 : b ≤ 30) (h3 : 64 * (d' + 1) + 400 ≤ c) : 2 * 0 + a + (b + 11) + (64 * d' + 400) ≤ c := by omega
section
variable {l : Launch} {B : Nat} {ro : Nat → Value} {D : va_G} {ca : FieldType → ClassId} {s0 : State} {X : mX} {A0 : Array Value}
set_option maxHeartbeats 4000000 in
theorem mex_sim (hG : mGF B ro D ca s0 X A0) (hl : ∀ e, l.admits e → e.platform.stackTraces = false) : ∀ (n d : Nat) (M : mM) (pc : Nat) (ls : mL) (st : List Value) (h : mH) (r : mO × mH), mex X n d M pc ls st h = some r → mRun l B ro D ca s0 d M pc ls st h r := by
  intro n
  induction n with
  | zero => intro d M pc ls st h r hex; cases hex
  | succ n ih =>
    intro d M pc ls st h r hex p e R s m args below meth c H locs cells slots lsR h0 hF hT hlow hcp hm hR
    have hro := hG.cat
    have hW0 := hF.2.2.2.2.2.2.1
    simp only [mex] at hex
    split at hex
    · cases hex
    · rename_i i hi
      split at hex
      · cases hex
      · rename_i pc' ls' st' h' ha
        exact sim_step hG hF hi ha hR hcp (fun H' locs' lsR' cells' slots' hR' => ih d M pc' ls' st' h' r hex p e R s m args below meth c H' locs' cells' slots' lsR' h0 hF hT hlow (cap_act hcp ha) (Nat.le_trans hm (mono_act ha)) hR')
      · rename_i r' ha
        cases hex
        by_cases hn : ∃ j, i = .new j
        · obtain ⟨j, rfl⟩ := hn
          simp only [mact] at ha
          split at ha
          · unfold mnewo at ha
            split at ha <;> cases ha
          · rename_i x z1 z2 hk
            exact sim_throw hG hF hT hlow hi hk ha hR hcp.2.2 hm
          · cases ha
        · exact sim_ret hG hF hi ha (fun j q => hn ⟨j, q⟩) hR hcp hm
      · rename_i k as rest ha
        split at hex
        · cases hex
        · rename_i d'
          split at hex
          · cases hex
          · rename_i M' hM'
            split at hex
            · cases hex
            · rename_i hlen
              have hlen : (mla as).length ≤ M'.2.2.1 := Decidable.not_not.mp hlen
              have e1 := hR.2.2.2.2.1
              have e2 := hR.2.2.2.2.2
              have r1 := hF.2.2.2.2.2.2.2.2.1
              have r2 := hF.2.2.2.2.2.2.2.2.2.1
              have r3 := hF.2.2.2.2.2.2.2.2.2.2.1
              have r4 := hF.2.2.2.2.2.2.2.2.2.2.2.1
              intro T hTt XX
              obtain ⟨hk, hsum, hd, mk, vm₁, X₁, hn, hstep⟩ := m_inv hG hF hi ha hM' hR hTt XX
              have hMF := mMF_of hM' hk
              have hWU : s0.WarmedH (T.setVm vm₁).vm := State.WarmedH.trans hW0 X₁.warmed
              have hGU : mG B ro D ca s0 (T.setVm vm₁) h := by
                refine ⟨hWU, by show va_P D mcl _ T.heap; rw [hTt]; exact hR.2.1, ?_, fun z => by show T.heap.size = _; rw [hTt]; exact hR.2.2.2.1 z⟩
                show va_S _ _ T.heap []
                rw [hTt]
                exact ⟨hR.2.2.1.1, hR.2.2.1.2.1, fun y hy => by cases hy⟩
              obtain ⟨w1, w2, w3, w4, w5, -, -, -, -⟩ := mwords (a := (as.map (mtr B ro)).toArray) (U := T.setVm vm₁) hG hMF hWU
              obtain ⟨mk', methY, cY, g1, g2, g3, g4, g5, -, -, -, -⟩ := mcw_spec w1
              cases hn.symm.trans g1
              obtain ⟨kY, hkY, -⟩ := className_of_methodNamed hn
              have hinitY := Cond.initialized_spec (findClass_of_methodNamed hn) hkY w2
              have hpre : (headSpec [mcw M'] (mrm d' h)).pre.before (as.map (mtr B ro)).toArray (T.setVm vm₁) = true := atoms_intro (fun w hw => by rw [List.mem_singleton.mp hw]; exact w1)
              have hloc : 2 * (F0 m pc lsR (rest.map (mtr B ro))).monitorRoom + (((F0 m pc lsR (rest.map (mtr B ro))).stack).map fun v => v.category).sum + (cY.maxLocals + 11) + (headSpec [mcw M'] (mrm d' h)).room.locals ≤ R.locals := by
                show 2 * 0 + ((rest.map (mtr B ro)).map fun v => v.category).sum + (cY.maxLocals + 11) + (64 * d' + 400) ≤ R.locals
                rw [mtr_sum hro, g5]
                exact mroom_le hsum w4 r4
              have main : ∀ r', mex X n d' M' 0 (ment M'.2.2.1 as) [] h = some r' → ∃ (o : Outcome) (s₂ V : State) (L : List Loc) (kk nn : Nat), Steps p.tables e below (doInvoke e ((T.setVm vm₁).setTop (F0 m pc lsR (rest.map (mtr B ro)))) [] mk (as.map (mtr B ro)).toArray).1 s₂ ∧ mOut B ro r'.1 o s₂ ∧ mcap r'.2 ∧ h.1.1 ≤ r'.2.1.1 ∧ V.heap = s₂.heap ∧ V.vm = s₂.vm ∧
                  Stand p l e R s m args below meth c V (locs ++ L) (cells + kk) (slots + nn) ∧ mR B ro D ca s0 (h0.1.1 + h0.1.2.1) h0.1.2.2 M.2.2.1 ls r'.2 V.heap (locs ++ L) lsR (cells + kk) (slots + nn) ∧
                  (∀ v, o = .returned v → s₂ = V.setTop (F0 m (pc + 3) lsR (v.toList ++ rest.map (mtr B ro)))) ∧ (∀ x, o = .threw x → s₂ = (V.setTop (F0 m pc lsR (rest.map (mtr B ro)))).pushFrame (.throwing x)) := by
                intro r' hc
                have hmet := mMet_of_run (k := k) hG hl hMF hlen hcp (ih d' M' 0 (ment M'.2.2.1 as) [] h r' hc)
                obtain ⟨o, s₂, hst, hq, hV⟩ := m_run hmet X₁ (g := F0 m pc lsR (rest.map (mtr B ro))) rfl (by show lsR.size = _; rw [hF.2.2.2.1]; exact hR.1.2.1) hd hn g2 g3 hkY hinitY (by show d' + 8 + 1 ≤ R.frames; omega) hloc
                  (by show cells + (mCap - (h.1.1 + h.1.2.1)) ≤ R.cells; have := hcp.1; omega) (by show slots + (mSap - h.1.2.2) ≤ R.slots; have := hcp.2.1; omega) hpre ⟨rfl, hGU⟩
                obtain ⟨q1, q2, qcp, q3, L, kk, nn, q4, q5, q6, q7, q8⟩ := hq
                obtain ⟨V, v1, v2, XV, vr, vt⟩ := hV L kk nn q4 q5
                refine ⟨o, s₂, V, L, kk, nn, hst, q1, qcp, q3, v1, v2, XV, ⟨hR.1, by rw [v1]; exact q2.2.1, ⟨by rw [v1]; exact q2.2.2.1.1, fun q a b => by rw [v1]; exact q2.2.2.1.2.1 q a b, fun y hy => ?_⟩, fun z => by rw [v1]; exact q2.2.2.2 z, by omega, by omega⟩, fun v hv => vr v hv, fun x hx => vt x hx⟩
                rcases List.mem_append.mp hy with hy | hy
                · exact ⟨(hR.2.2.1.2.2 y hy).1, Nat.lt_of_lt_of_le (hR.2.2.1.2.2 y hy).2 (Nat.add_le_add_left q3 B)⟩
                · exact q6 y hy
              split at hex
              · cases hex
              · rename_i v h' hc
                obtain ⟨o, s₂, V, L, kk, nn, hst, q1, qcp, q3, v1, v2, XV, hR', vr, vt⟩ := main _ hc
                have es := vr _ q1
                have ek : (v.map (mtr B ro)).toList ++ rest.map (mtr B ro) = (v.toList ++ rest).map (mtr B ro) := by cases v <;> rfl
                rw [ek] at es
                obtain ⟨t, a1, b1⟩ := ih (d' + 1) M (pc + 3) ls (v.toList ++ rest) h' r hex p e R s m args below meth c V.heap (locs ++ L) (cells + kk) (slots + nn) lsR h0 hF hT hlow qcp (Nat.le_trans hm q3) hR' V rfl XV
                refine ⟨t, hstep _ (fun acts => ?_), b1⟩
                rw [doInvoke_state]
                rw [es] at hst
                exact hst.trans a1
              · rename_i x h' hc
                obtain ⟨o, s₂, V, L, kk, nn, hst, q1, qcp, q3, v1, v2, XV, hR', vr, vt⟩ := main _ hc
                split at hex
                · cases hex
                · rename_i t' j hcat
                  split at hex
                  · rename_i hj
                    obtain ⟨aa, cell, kc, rfl, f1, f2, f3, f4, hx4⟩ := q1
                    have es := vt aa rfl
                    obtain ⟨pre, a, b, tt, cc, post, ehh, ha1, ha2, ⟨z1, z2, hcl⟩, hast, hpre'⟩ := mcat_spec hcat
                    have hT' := hT
                    unfold mTab at hT'
                    rw [ehh] at hT'
                    obtain ⟨preE, restE, hs1, hs2, hs3⟩ := List.map_eq_append_iff.mp hT'
                    obtain ⟨xE, postE, hs4, hs5, hs6⟩ := List.map_eq_cons_iff.mp hs3
                    subst hs4
                    have hAl : s.vm.Alike s₂.vm := by rw [← v2]; exact XV.warmed.alike
                    have hpl : e.platform.magicAccessors = ({} : Platform).magicAccessors := by rw [XX.admits.platform]
                    have hfc : s.vm.findClass (mEX x) = some cell.cls := by rw [hAl.findClass] at f3; exact f3
                    obtain ⟨k0, hk0, -⟩ := hAl.symm.2.2 _ _ f4
                    have hlinkOf : ∀ cy y y1 y2, mlk M.2.1 cy = (7, y, y1, y2) → y < 4 ∧ cy ≠ 0 ∧ ∃ c', s.vm.findClass (mEX y) = some c' ∧ s.vm.ClassLinks e.platform m.cls cy c' := by
                      intro cy y y1 y2 hcy
                      have hc0 := mchk_all M.2.1 cy
                      unfold mchk at hc0
                      rw [hcy] at hc0
                      simp only [Bool.and_eq_true, decide_eq_true_eq] at hc0
                      obtain ⟨c', hc', hcl'⟩ := Cond.classLink_spec hF.2.2.2.2.1 (mword (args := args) hG hF (mem_spec hc0.2)) e.platform hpl
                      refine ⟨hc0.1, fun q => ?_, c', hc', hcl'⟩
                      rw [q] at hcy
                      exact mlkz M.2.1 hF.2.2.2.2.2.2.2.2.2.2.2.2.1 (by rw [hcy])
                    have hxE : xE.startPc = a ∧ xE.endPc = b ∧ xE.handlerPc = tt ∧ xE.catchType = cc := by
                      simp only [Prod.mk.injEq] at hs5
                      exact hs5
                    obtain ⟨-, hcc0, cX, hcX, hlX⟩ := hlinkOf cc x z1 z2 hcl
                    cases Option.some.inj (hcX.symm.trans hfc)
                    have hself : s.vm.assignable cell.cls cell.cls = true := by
                      obtain ⟨c3, c4, hc3, hc4, hasg⟩ := Cond.castable_spec (va_Nw.use (A := args) rfl (va_Nw.warmC hW0 (va_Nw.of rfl (hG.2.1 _ (mey_all hx4).2))))
                      cases Option.some.inj (hc3.symm.trans hfc)
                      cases Option.some.inj (hc4.symm.trans hfc)
                      exact hasg
                    obtain ⟨vm', Xc, hcatch⟩ := m_catch XV aa (g := F0 m pc lsR (rest.map (mtr B ro))) rfl (cell := cell) (by rw [v1]; exact f1) f2 ⟨k0, hk0⟩ preE xE postE hs1 (by simp only [covers, hxE.1, hxE.2.1]; simp [ha1, ha2]) (by rw [hxE.2.2.2]; exact hcc0) ⟨_, by rw [hxE.2.2.2]; exact hlX, hself⟩ (by
                      intro y hy
                      have hyp : (y.startPc, y.endPc, y.handlerPc, y.catchType) ∈ pre := by rw [← hs2]; exact List.mem_map.mpr ⟨y, hy, rfl⟩
                      rcases hpre' _ hyp with q | ⟨y0, y1, y2, hq, hne⟩
                      · left
                        simp only [covers]
                        simp only at q
                        by_cases ha : y.startPc ≤ pc
                        · have : ¬ pc < y.endPc := fun z => q ⟨ha, z⟩
                          simp [this]
                        · simp [ha]
                      · right
                        obtain ⟨hy4, hy0, cy, hcy, hly⟩ := hlinkOf _ _ _ _ hq
                        refine ⟨hy0, cy, hly, ?_⟩
                        obtain ⟨c5, t5, g5a, g5b, g5c⟩ := va_Nc.moved hW0.alike (hG.2.2.2.2.2.2.2.2.2.2.2.2.2 x y0 hx4 hy4 (fun z => hne z.symm))
                        cases Option.some.inj (g5a.symm.trans hfc)
                        cases Option.some.inj (g5b.symm.trans hcy)
                        exact g5c)
                    have hjn : j < M.2.2.1 := by rw [← hR.1.1]; exact hj
                    have hWW : W p l e R s m args below meth c V.heap (locs ++ L) (cells + kk) (slots + nn) (mQ B ro D ca s0 h0 r below args s) (F0 m tt lsR [.ref aa]) := by
                      rcases hast with ⟨hA, ht⟩ | ⟨jn, hA, hjj, ht⟩
                      · obtain ⟨len, dA, sA⟩ := hF.2.2.2.2.2.2.2.1 _ _ hA
                        obtain rfl := mlen sA rfl
                        refine lv_astore hF.1 rfl dA hR'.1.2 hjn rfl (fun lsR' hl' => ?_)
                        subst ht
                        exact ih (d' + 1) M (tt + 2) (mls0 ls j) [] h' r hex p e R s m args below meth c V.heap (locs ++ L) (cells + kk) (slots + nn) lsR' h0 hF hT hlow qcp (Nat.le_trans hm q3) ⟨mLH.lose (mtr_cat hro) hR'.1.1 hj hl', hR'.2⟩
                      · obtain ⟨len, dA, sA⟩ := hF.2.2.2.2.2.2.2.1 _ _ hA
                        obtain rfl := mlen sA rfl
                        refine lv_astore_n hF.1 rfl dA hjj hR'.1.2 hjn rfl (fun lsR' hl' => ?_)
                        subst ht
                        exact ih (d' + 1) M (tt + 1) (mls0 ls j) [] h' r hex p e R s m args below meth c V.heap (locs ++ L) (cells + kk) (slots + nn) lsR' h0 hF hT hlow qcp (Nat.le_trans hm q3) ⟨mLH.lose (mtr_cat hro) hR'.1.1 hj hl', hR'.2⟩
                    obtain ⟨t, a1, b1⟩ := hWW (V.setVm vm') rfl Xc
                    refine ⟨t, hstep _ (fun acts => ?_), b1⟩
                    rw [doInvoke_state]
                    rw [es] at hst
                    refine hst.trans (hcatch _ ?_)
                    rw [hxE.2.2.1]
                    exact a1
                  · cases hex
end
