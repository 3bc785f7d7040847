/-! the ends of a method -/
theorem mono_if1 {f : Int32 → Bool} {off : Int} {pc : Nat} {ls : mL} {st : List Value} {h : mH} {σ : mS} (ha : mif1 f off pc ls st h = some (.inl σ)) : σ.2.2.2 = h := by
  unfold mif1 at ha
  split at ha
  · split at ha
    · rename_i x r _ t _
      cases hf : f x <;> rw [hf] at ha <;> cases ha <;> rfl
    · cases ha
  · cases ha
theorem mono_if2 {f : Int32 → Int32 → Bool} {off : Int} {pc : Nat} {ls : mL} {st : List Value} {h : mH} {σ : mS} (ha : mif2 f off pc ls st h = some (.inl σ)) : σ.2.2.2 = h := by
  unfold mif2 at ha
  split at ha
  · split at ha
    · rename_i y x r _ t _
      cases hf : f x y <;> rw [hf] at ha <;> cases ha <;> rfl
    · cases ha
  · cases ha
set_option maxHeartbeats 4000000 in
theorem mono_act {X : mX} {M : mM} {i : Instr} {pc : Nat} {ls : mL} {st : List Value} {h : mH} {σ : mS} (ha : mact X M i pc ls st h = some (.inl σ)) : h.1.1 ≤ σ.2.2.2.1.1 := by
  cases i
  case ifCond cc off => cases cc <;> rw [mono_if1 ha] <;> exact Nat.le_refl _
  case if_icmp cc off => cases cc <;> rw [mono_if2 ha] <;> exact Nat.le_refl _
  all_goals simp only [mact, mgo, mldc, mildI, mildL, mildA, mistI, mistL, mistA, m1i, m1l, m2i, m2l, m2j, mdvi, mdvl, mjmp, mgetf, mputf, mgets, mnewo, mnewa, mthrow, mfin, mald, mlald, mast, mlast, malen, mcall, mcallS, mcopy, mcallV, mcallI] at ha
  all_goals (repeat' split at ha)
  all_goals first
    | (cases ha; done)
    | (cases ha; exact Nat.le_refl _)
    | (cases ha; exact Nat.le_succ _)
theorem mfb (x : Int32) : fits .byte (.int (vp_nar .byte x)) = true := by
  have h2 := mb8 (x.toInt8.toInt32) (by simp)
  show (decide (-128 ≤ x.toInt8.toInt32) && decide (x.toInt8.toInt32 ≤ 127)) = true
  rw [decide_eq_true h2.1, decide_eq_true h2.2]
  rfl
theorem cap_putf {ini : Bool} {o ci k pc : Nat} {ls : mL} {st : List Value} {h : mH} {σ : mS} (hc : mcap h) (ha : mputf ini o ci k pc ls st h = some (.inl σ)) : mcap σ.2.2.2 := by
  simp only [mputf, mgo] at ha
  repeat' split at ha
  all_goals first
    | (cases ha; done)
    | (cases ha; exact ⟨hc.1, hc.2.1, mby_up hc.2.2 (fun n f e => by cases e)⟩)
theorem cap_ast {ty : FieldType} {pc : Nat} {ls : mL} {st : List Value} {h : mH} {σ : mS} (hc : mcap h) (ha : mast ty pc ls st h = some (.inl σ)) : mcap σ.2.2.2 := by
  unfold mast at ha
  split at ha
  · rename_i x i a r
    split at ha
    · split at ha
      · rename_i ty' n f hx
        split at ha
        · rename_i hq
          obtain ⟨rfl, -⟩ := hq
          cases ha
          refine ⟨hc.1, hc.2.1, mby_up hc.2.2 (fun n' f' e j => ?_)⟩
          simp only [Sum.inl.injEq, Prod.mk.injEq] at e
          obtain ⟨rfl, rfl, rfl⟩ := e
          show fits .byte (.int (if j = i.toNatClampNeg then vp_nar .byte x else f j)) = true
          by_cases hj : j = i.toNatClampNeg
          · rw [if_pos hj]; exact mfb x
          · rw [if_neg hj]; exact hc.2.2 a n f hx j
        · cases ha
      · cases ha
    · cases ha
  · cases ha
theorem cap_last {pc : Nat} {ls : mL} {st : List Value} {h : mH} {σ : mS} (hc : mcap h) (ha : mlast pc ls st h = some (.inl σ)) : mcap σ.2.2.2 := by
  simp only [mlast, mgo] at ha
  repeat' split at ha
  all_goals first
    | (cases ha; done)
    | (cases ha; exact ⟨hc.1, hc.2.1, mby_up hc.2.2 (fun n f e => by cases e)⟩)
theorem cap_newo {ci pc : Nat} {ls : mL} {st : List Value} {h : mH} {σ : mS} (hc : mcap h) (ha : mnewo ci pc ls st h = some (.inl σ)) : mcap σ.2.2.2 := by
  unfold mnewo at ha
  split at ha
  · rename_i hq
    cases ha
    exact ⟨hq.2.1, hq.2.2.1, mby_up hc.2.2 (fun n f e => by cases e)⟩
  · cases ha
theorem cap_newa {ty : FieldType} {w : (Nat → Int32) ⊕ (Nat → Int64) ⊕ (Nat → UInt32) ⊕ (Nat → UInt64) ⊕ (Nat → Option Nat)} {pc : Nat} {ls : mL} {st : List Value} {h : mH} {σ : mS} (hw : w = (.inl fun _ => 0) ∨ w = (.inr (.inl fun _ => 0))) (hc : mcap h) (ha : mnewa ty w pc ls st h = some (.inl σ)) : mcap σ.2.2.2 := by
  unfold mnewa at ha
  split at ha
  · split at ha
    · rename_i hq
      cases ha
      refine ⟨hq.2.1, hq.2.2.1, mby_up hc.2.2 (fun n f e j => ?_)⟩
      rcases hw with rfl | rfl
      · simp only [Sum.inl.injEq, Prod.mk.injEq] at e
        obtain ⟨-, -, rfl⟩ := e
        rfl
      · simp at e
    · cases ha
  · cases ha
theorem cap_copy {pc : Nat} {ls : mL} {st : List Value} {h : mH} {σ : mS} (hc : mcap h) (ha : mcopy pc ls st h = some (.inl σ)) : mcap σ.2.2.2 := by
  unfold mcopy at ha
  split at ha
  · rename_i n dp a1 sp a0 r
    split at ha
    · split at ha
      · rename_i n0 f n1 g hx0 hx1
        split at ha
        · cases ha
          refine ⟨hc.1, hc.2.1, mby_up hc.2.2 (fun n' f' e j => ?_)⟩
          simp only [Sum.inl.injEq, Prod.mk.injEq, true_and] at e
          obtain ⟨rfl, rfl⟩ := e
          simp only [va_cpy]
          split
          · exact hc.2.2 a0 n0 f hx0 _
          · exact hc.2.2 a1 n1 g hx1 _
        · cases ha
      · cases ha
    · cases ha
  · cases ha
set_option maxHeartbeats 4000000 in
theorem cap_act {X : mX} {M : mM} {i : Instr} {pc : Nat} {ls : mL} {st : List Value} {h : mH} {σ : mS} (hc : mcap h) (ha : mact X M i pc ls st h = some (.inl σ)) : mcap σ.2.2.2 := by
  cases i
  case ifCond cc off => cases cc <;> rw [mono_if1 ha] <;> exact hc
  case if_icmp cc off => cases cc <;> rw [mono_if2 ha] <;> exact hc
  case iastore => exact cap_ast hc ha
  case bastore => exact cap_ast hc ha
  case lastore => exact cap_last hc ha
  case putfield j =>
    simp only [mact] at ha
    split at ha
    · exact cap_putf hc ha
    · cases ha
  case new j =>
    simp only [mact] at ha
    split at ha
    · exact cap_newo hc ha
    · simp only [mthrow, mfin] at ha
      repeat' split at ha
      all_goals cases ha
    · cases ha
  case newarray t =>
    cases t
    case int => exact cap_newa (Or.inl rfl) hc ha
    case byte => exact cap_newa (Or.inl rfl) hc ha
    case long => exact cap_newa (Or.inr rfl) hc ha
    all_goals exact nomatch (show (none : Option mA) = some (.inl σ) from ha)
  case invokestatic j =>
    simp only [mact] at ha
    split at ha
    · simp only [mcallS, mcall] at ha
      repeat' split at ha
      all_goals cases ha
    · exact cap_copy hc ha
    · cases ha
  all_goals simp only [mact, mgo, mldc, mildI, mildL, mildA, mistI, mistL, mistA, m1i, m1l, m2i, m2l, m2j, mdvi, mdvl, mjmp, mgetf, mgets, mfin, mald, mlald, malen, mcall, mcallS, mcallV, mcallI] at ha
  all_goals (repeat' split at ha)
  all_goals first
    | (cases ha; done)
    | (cases ha; exact hc)
section
variable {p : Program} {l : Launch} {e : Env} {R : Room} {s : State} {m : MethodId} {args : Array Value} {below : List Frame} {meth : Method} {c : Code} {H : Heap} {locs : List Loc} {cells slots : Nat} {Q : State → Prop}
variable {B : Nat} {ro : Nat → Value} {D : va_G} {ca : FieldType → ClassId} {s0 : State} {X : mX} {A0 : Array Value} {n0 z0 nL d : Nat} {lsR : Array Slot} {pc : Nat} {ls : mL} {st : List Value} {h h0 : mH} {r : mO × mH} {M : mM}
theorem mW {Q1 Q2 : State → Prop} {g : JFrame} (hq : ∀ t, Q1 t → Q2 t) (w : W p l e R s m args below meth c H locs cells slots Q1 g) : W p l e R s m args below meth c H locs cells slots Q2 g := by
  intro T hT X
  obtain ⟨t, a, b⟩ := w T hT X
  exact ⟨t, a, hq t b⟩
/-- the state U holds the small machine's heap h -/
def mG (B : Nat) (ro : Nat → Value) (D : va_G) (ca : FieldType → ClassId) (s0 U : State) (h : mH) : Prop :=
  s0.WarmedH U.vm ∧ va_P D mcl (mw B ro ca h) U.heap ∧ va_S (mAr B h.1.1) s0.heap U.heap [] ∧ (h.1.2.1 = 0 → U.heap.size = B + h.1.1)
def mOut (B : Nat) (ro : Nat → Value) (r : mO) (o : Outcome) (t : State) : Prop := match r with
  | .inl v => o = .returned (v.map (mtr B ro))
  | .inr x => ∃ (a : Addr) (cell : Cell) (k : Class), o = .threw a ∧ t.heap[a]? = some cell ∧ cell.vm.isStatics = false ∧ t.vm.findClass (mEX x) = some cell.cls ∧ t.vm.classes[cell.cls]? = some k ∧ x < 4
/-- a method's promise: from h it comes to r -/
def mPost (B : Nat) (ro : Nat → Value) (D : va_G) (ca : FieldType → ClassId) (s0 : State) (h : mH) (r : mO × mH) : Array Value → State → Outcome → State → Prop := fun _ st o t =>
  mOut B ro r.1 o t ∧ mG B ro D ca s0 t r.2 ∧ mcap r.2 ∧ h.1.1 ≤ r.2.1.1 ∧ ∃ L k n, st.WarmedH t.vm ∧ st.sameButNew ({ t with vm := st.vm } : State) L k n ∧ (∀ q ∈ L, mAr B r.2.1.1 q.base) ∧ h.1.1 + h.1.2.1 + k = r.2.1.1 + r.2.1.2.1 ∧ h.1.2.2 + n = r.2.1.2.2
def mQ (B : Nat) (ro : Nat → Value) (D : va_G) (ca : FieldType → ClassId) (s0 : State) (h : mH) (r : mO × mH) (below : List Frame) (args : Array Value) (s : State) : State → Prop := fun t =>
  ∃ o, t.status = .running ∧ Ended t below o ∧ mPost B ro D ca s0 h r args s o t
theorem mQ_of_MQ {v : Option Value} (hF : mFF s0 M p e R s m meth c d (h0.1.1 + h0.1.2.1) h0.1.2.2) (hR : mR B ro D ca s0 (h0.1.1 + h0.1.2.1) h0.1.2.2 M.2.2.1 ls h H locs lsR cells slots) (hcp : mcap h) (hm : h0.1.1 ≤ h.1.1) :
    ∀ t, MQ below (fun _ _ o t => o = .returned (v.map (mtr B ro)) ∧ t.heap = H ∧ s.WarmedH t.vm) args s cells slots (mAr B h.1.1) t → mQ B ro D ca s0 h0 (.inl v, h) below args s t := by
  rintro t ⟨o, h1, h2, ⟨h3, h4, h5⟩, L, ⟨-, h6, h7⟩, h8⟩
  refine ⟨o, h1, h2, h3, ⟨State.WarmedH.trans hF.2.2.2.2.2.2.1 h5, by rw [h4]; exact hR.2.1, ?_, fun q => by rw [h4]; exact hR.2.2.2.1 q⟩, hcp, hm, L, cells, slots, h6, h7, h8, hR.2.2.2.2.1, hR.2.2.2.2.2⟩
  refine ⟨by rw [h4]; exact hR.2.2.1.1, fun q q1 q2 => ?_, fun y hy => by cases hy⟩
  rw [h4]
  exact hR.2.2.1.2.1 q q1 q2
theorem sim_ret {i : Instr} (hG : mGF B ro D ca s0 X A0) (hF : mFF s0 M p e R s m meth c d (h0.1.1 + h0.1.2.1) h0.1.2.2) (hi : M.1 pc = some i) (ha : mact X M i pc ls st h = some (.inr (.inr r))) (hnew : ∀ j, i ≠ .new j) (hR : mR B ro D ca s0 (h0.1.1 + h0.1.2.1) h0.1.2.2 M.2.2.1 ls h H locs lsR cells slots) (hcp : mcap h) (hm : h0.1.1 ≤ h.1.1) :
    W p l e R s m args below meth c H locs cells slots (mQ B ro D ca s0 h0 r below args s) (F0 m pc lsR (st.map (mtr B ro))) := by
  obtain ⟨len, hd, hsl⟩ := hF.2.2.2.2.2.2.2.1 pc i hi
  have hx := hF.1
  have hlk := hF.2.2.1
  have hno : i = .ireturn ∨ i = .lreturn ∨ i = .areturn ∨ i = .return_ := by
    cases i
    case ireturn => exact Or.inl rfl
    case lreturn => exact Or.inr (Or.inl rfl)
    case areturn => exact Or.inr (Or.inr (Or.inl rfl))
    case return_ => exact Or.inr (Or.inr (Or.inr rfl))
    case new j => exact absurd rfl (hnew j)
    all_goals (exfalso; simp only [mact, mgo, mldc, mildI, mildL, mildA, mistI, mistL, mistA, m1i, m1l, m2i, m2l, m2j, mdvi, mdvl, mjmp, mgetf, mputf, mgets, mnewa, mald, mlald, mast, mlast, malen, mcall, mcallS, mcopy, mcallV, mcallI, mif1, mif2, Bool.cond_eq_ite] at ha)
    all_goals (repeat' split at ha)
    all_goals (cases ha)
  rcases hno with rfl | rfl | rfl | rfl
  · obtain rfl := mlen hsl rfl
    simp only [mact] at ha
    split at ha
    · rename_i v ty hty
      split at ha
      · rename_i hfit
        cases ha
        exact mW (mQ_of_MQ (v := some (.int v)) hF hR hcp hm) (W.zret hx rfl (hF.2.1.trans hty) (mfit_spec (B := B) (ro := ro) hfit).1 (fun t h1 h2 => ⟨rfl, h1, h2⟩) hR.2.2.1.2.2 hd hlk)
      · cases ha
    · cases ha
  · obtain rfl := mlen hsl rfl
    simp only [mact] at ha
    split at ha
    · rename_i v hty
      cases ha
      exact mW (mQ_of_MQ (v := some (.long v)) hF hR hcp hm) (W.lret hx rfl (hF.2.1.trans hty) (fun t h1 h2 => ⟨rfl, h1, h2⟩) hR.2.2.1.2.2 hd hlk)
    · cases ha
  · obtain rfl := mlen hsl rfl
    simp only [mact] at ha
    split at ha
    · rename_i v nm hty
      cases ha
      exact mW (mQ_of_MQ (v := some (.ref v)) hF hR hcp hm) (W.aret hx rfl (hF.2.1.trans hty) (Or.inl ⟨nm, rfl⟩) (mtr_ref hG.2.2.2.1 v) (fun t h1 h2 => ⟨rfl, h1, h2⟩) hR.2.2.1.2.2 hd hlk)
    · cases ha
  · obtain rfl := mlen hsl rfl
    simp only [mact] at ha
    split at ha
    · rename_i hty
      cases ha
      exact mW (mQ_of_MQ (v := none) hF hR hcp hm) (W.vret hx rfl (hF.2.1.trans hty) (fun t h1 h2 => ⟨rfl, h1, h2⟩) hR.2.2.1.2.2 hd hlk)
    · cases ha
end
