/-! THE SIMULATION: what the small machine does, the machine does -/
def mrm (d : Nat) (h : mH) : Room := { frames := d + 8, cells := mCap - (h.1.1 + h.1.2.1), slots := mSap - h.1.2.2, locals := 64 * d + 400 }
theorem mlkz (o : Nat) (h : o < 21) : ¬ (mlk o 0).1 = 7 := by
  have key : (List.range 21).all (fun o => !decide ((mlk o 0).1 = 7)) = true := by decide +kernel
  have := List.all_eq_true.mp key o (List.mem_range.mpr h)
  simpa using this
theorem mcat_spec {M : mM} {pc x t j : Nat} : ∀ {hh : List (Nat × Nat × Nat × Nat)}, mcat M pc x hh = some (t, j) →
    ∃ pre a b tt cc post, hh = pre ++ (a, b, tt, cc) :: post ∧ a ≤ pc ∧ pc < b ∧ (∃ z1 z2, mlk M.2.1 cc = (7, x, z1, z2)) ∧ ((M.1 tt = some (.astore j) ∧ t = tt + 2) ∨ ∃ jn : Fin 4, M.1 tt = some (.astore_n jn) ∧ (jn : Nat) = j ∧ t = tt + 1) ∧
      ∀ q ∈ pre, ¬ (q.1 ≤ pc ∧ pc < q.2.1) ∨ ∃ y z1 z2, mlk M.2.1 q.2.2.2 = (7, y, z1, z2) ∧ ¬ y = x := by
  intro hh
  induction hh with
  | nil => intro h; cases h
  | cons q r ih =>
    intro h
    obtain ⟨a, b, tt, cc⟩ := q
    simp only [mcat] at h
    split at h
    · rename_i hcov
      split at h
      · rename_i y z1 z2 hk
        split at h
        · rename_i hy
          subst hy
          split at h
          · rename_i j' hj
            cases h
            exact ⟨[], a, b, tt, cc, r, rfl, hcov.1, hcov.2, ⟨z1, z2, hk⟩, Or.inl ⟨hj, rfl⟩, fun q hq => by cases hq⟩
          · rename_i j' hj
            cases h
            exact ⟨[], a, b, tt, cc, r, rfl, hcov.1, hcov.2, ⟨z1, z2, hk⟩, Or.inr ⟨j', hj, rfl, rfl⟩, fun q hq => by cases hq⟩
          · cases h
        · rename_i hy
          obtain ⟨pre, a', b', tt', cc', post, e, h1, h2, h3, h4, h5⟩ := ih h
          refine ⟨(a, b, tt, cc) :: pre, a', b', tt', cc', post, by rw [e]; rfl, h1, h2, h3, h4, fun q hq => ?_⟩
          rcases List.mem_cons.mp hq with rfl | hq
          · exact Or.inr ⟨y, z1, z2, hk, hy⟩
          · exact h5 q hq
      · cases h
    · rename_i hcov
      obtain ⟨pre, a', b', tt', cc', post, e, h1, h2, h3, h4, h5⟩ := ih h
      refine ⟨(a, b, tt, cc) :: pre, a', b', tt', cc', post, by rw [e]; rfl, h1, h2, h3, h4, fun q hq => ?_⟩
      rcases List.mem_cons.mp hq with rfl | hq
      · exact Or.inl hcov
      · exact h5 q hq
theorem mla_len (T : Value → Value) (hT : ∀ v, (T v).category = v.category) (as : List Value) : (lg_sl (as.map T)).length = (mla as).length := by
  induction as with
  | nil => rfl
  | cons v as ih =>
    simp only [List.map_cons, mla]
    by_cases hc : v.category = 2
    · rw [if_pos hc]
      simp only [lg_sl, List.flatMap_cons, hT, hc] at ih ⊢
      simp [ih]
    · rw [if_neg hc]
      simp only [lg_sl, List.flatMap_cons, hT, hc] at ih ⊢
      simp [ih]
section
variable {p : Program} {l : Launch} {e : Env} {R : Room} {s : State} {m : MethodId} {args : Array Value} {below : List Frame} {meth : Method} {c : Code} {H : Heap} {locs : List Loc} {cells slots : Nat} {Q : State → Prop}
variable {B : Nat} {ro : Nat → Value} {D : va_G} {ca : FieldType → ClassId} {s0 : State} {X : mX} {A0 : Array Value} {n0 z0 nL d : Nat} {lsR : Array Slot} {pc : Nat} {ls : mL} {st : List Value} {h h0 : mH} {r : mO × mH} {M : mM}
/-- what the exception table is -/
def mTab (c : Code) (M : mM) : Prop := c.exceptionTable.toList.map (fun h => (h.startPc, h.endPc, h.handlerPc, h.catchType)) = M.2.2.2.2.2.2.2
/-- a run of the method's body, from a state that stands to the small machine's -/
def mRun (l : Launch) (B : Nat) (ro : Nat → Value) (D : va_G) (ca : FieldType → ClassId) (s0 : State) (d : Nat) (M : mM) (pc : Nat) (ls : mL) (st : List Value) (h : mH) (r : mO × mH) : Prop :=
  ∀ (p : Program) (e : Env) (R : Room) (s : State) (m : MethodId) (args : Array Value) (below : List Frame) (meth : Method) (c : Code) (H : Heap) (locs : List Loc) (cells slots : Nat) (lsR : Array Slot) (h0 : mH),
    mFF s0 M p e R s m meth c d (h0.1.1 + h0.1.2.1) h0.1.2.2 → mTab c M → (∀ q, q < s0.heap.size → s.heap[q]? = s0.heap[q]?) → mcap h → h0.1.1 ≤ h.1.1 → mR B ro D ca s0 (h0.1.1 + h0.1.2.1) h0.1.2.2 M.2.2.1 ls h H locs lsR cells slots →
    W p l e R s m args below meth c H locs cells slots (mQ B ro D ca s0 h0 r below args s) (F0 m pc lsR (st.map (mtr B ro)))
def mMet (l : Launch) (B : Nat) (ro : Nat → Value) (D : va_G) (ca : FieldType → ClassId) (s0 : State) (d : Nat) (M : mM) (as : List Value) (h : mH) (r : mO × mH) : Prop :=
  MetFree l M.2.2.2.2.1 (headSpec [mcw M] (mrm d h)) (fun a U => a = (as.map (mtr B ro)).toArray ∧ mG B ro D ca s0 U h) (fun _ _ _ _ _ => True) (mPost B ro D ca s0 h r)
theorem mMF_code {k : Nat} (hM : mMF k M) : ∀ pc i, M.1 pc = some i → ∃ len, decode M.2.2.2.2.2.1 pc = .ok (i, len) ∧ (misw i = true ∨ len = milen i) := by
  obtain ⟨-, -, -, n, h1, h2⟩ := hM
  exact fun pc i hi => mokc_spec h1 h2 hi
/-- a method's contract out of a run of its body -/
theorem mMet_of_run {k : Nat} {as : List Value} (hG : mGF B ro D ca s0 X A0) (hl : ∀ e, l.admits e → e.platform.stackTraces = false) (hM : mMF k M) (hlen : (mla as).length ≤ M.2.2.1) (hcp : mcap h) (hrun : mRun l B ro D ca s0 d M 0 (ment M.2.2.1 as) [] h r) : mMet l B ro D ca s0 d M as h r := by
  have hmk := hM
  obtain ⟨-, hy, ⟨q, hq⟩, -⟩ := hmk
  simp only [mmk, Bool.and_eq_true, decide_eq_true_eq] at hq
  obtain ⟨⟨⟨⟨⟨⟨k1, k2⟩, k3⟩, k4⟩, k5⟩, k6⟩, k7⟩ := hq
  have hro := hG.cat
  refine MetFree.of_bodySF (code := M.2.2.2.2.2.1) (maxLocals := M.2.2.1) (ret := M.2.2.2.1) (by rw [hy]; exact k2) ?_ ?_
  · intro args s m hp hn
    obtain ⟨mk, methM, cM, g1, g2, g3, g4, g5, g6, g7, -, -⟩ := mcw_spec (atoms_spec (ws := [mcw M]) hp _ List.mem_cons_self)
    cases hn.symm.trans g1
    exact ⟨methM, cM, g2, g3, g4, g5, g6, g7⟩
  · intro p e s m args below meth c s₁ BB hml hP _
    obtain ⟨rfl, w1, w2, w3, w4⟩ := hP
    obtain ⟨mk, methM, cM, g1, g2, g3, g4, g5, g6, g7, g8, -⟩ := mcw_spec (atoms_spec (ws := [mcw M]) BB.pre _ List.mem_cons_self)
    cases BB.named.symm.trans g1
    cases BB.method.symm.trans g2
    cases (Stand.of_body BB).code.symm.trans g3
    have hh0 : s₁.heap = s.heap := by rw [BB.state]; rfl
    have hnm := name_of_methodNamed BB.named BB.method
    have hF : mFF s0 M p e (mrm d h) s m meth c d (h.1.1 + h.1.2.1) h.1.2.2 :=
      ⟨BB.exec, BB.returns, BB.notSynchronized, hml, by rw [← k3, ← hy]; exact findClass_of_methodNamed BB.named, hnm.1, w1, fun pc i hi => by rw [BB.bytes]; exact mMF_code hM pc i hi, rfl, rfl, Nat.le_refl _, Nat.le_refl _, k5, hl e BB.admits⟩
    have hle := mla_len (mtr B ro) (mtr_cat hro) as
    have hent := lv_entry (as.map (mtr B ro)) (n := M.2.2.1) (by rw [hle]; exact hlen)
    have hLH : mLH (mtr B ro) ((lg_sl (as.map (mtr B ro)) ++ List.replicate (M.2.2.1 - (lg_sl (as.map (mtr B ro))).length) Slot.unset).toArray) M.2.2.1 (ment M.2.2.1 as) := by
      refine ⟨by simp only [ment, List.length_append, List.length_replicate]; omega, hent.1, hent.2.1, fun q hq => ?_⟩
      obtain ⟨v, hv, e2⟩ := mlv_mem.mp hq
      have h3 := mla_lv (mtr B ro) (mtr_cat hro) as 0 q.1 v (mlg_app (fun j => mlg_rep _ j) hv)
      rw [Nat.zero_add, ← e2] at h3
      exact hent.2.2 q h3
    have K := hrun p e (mrm d h) s m (as.map (mtr B ro)).toArray below meth c s.heap [] 0 0 _ h hF g8 (fun q hq => w3.2.1 q hq (fun z => by have := z.1; have := hG.1; omega)) hcp (Nat.le_refl _) ⟨hLH, w2, w3, w4, rfl, rfl⟩
    rw [lg_entry_eq]
    have X₀ : Stand p l e (mrm d h) s m (as.map (mtr B ro)).toArray below meth c s₁ [] 0 0 := Stand.of_body BB
    obtain ⟨t, a1, o, b1, b2, b3⟩ := K s₁ hh0 X₀
    exact ⟨t, o, a1, b1, b2, b3⟩
end
