/-! the small machine's steps are the machine's: the instructions that touch cells -/
/-- what holds of the start s0, once and for all -/
def mGF (B : Nat) (ro : Nat → Value) (D : va_G) (ca : FieldType → ClassId) (s0 : State) (X : mX) (A0 : Array Value) : Prop :=
  B = s0.heap.size ∧ (∀ w ∈ lw_tbl, w.before A0 s0 = true) ∧ va_K D mcl [(ca .int, .int), (ca .byte, .byte), (ca .long, .long)] s0 ∧
  (∀ i, ro i = .null ∨ ∃ a, ro i = .ref a) ∧
  (∀ i ty n f, mro X i = some (.inl (ty, n, .inl f)) → ∃ a, ro i = .ref a ∧ va_T ty a n (fun j => .int (f j)) (fun q => B ≤ q) s0 s0.heap) ∧
  (∀ i ty n f, mro X i = some (.inl (ty, n, .inr (.inl f))) → ∃ a, ro i = .ref a ∧ va_T ty a n (fun j => .long (f j)) (fun q => B ≤ q) s0 s0.heap) ∧
  (∀ i fs, mro X i = some (.inr (14, fs)) → ∃ a, ro i = .ref a ∧ va_O "java/lang/String" a (fun q => B ≤ q) s0 s0.heap ∧ ∀ k v, fs[k]? = some v → va_OF (mTT 14 k).1 (mTT 14 k).2.1 (mTT 14 k).2.2.1 (mtr B ro v) a (fun q => B ≤ q) s0 s0.heap) ∧
  (∀ o i j z1 z2, mlk o i = (5, j, z1, z2) → ∃ a, ro (3 + 2 * j) = .ref a ∧ vk_R (mCN o) i (mST.getD j "") a s0) ∧
  (∃ a, ro 1 = .ref a ∧ va_Z "FormatPress$Decimal" "TENS" "[J" (.ref a) (fun q => B ≤ q) s0 s0.heap) ∧ va_Z "java/lang/String" "COMPACT_STRINGS" "Z" (.int 1) (fun q => B ≤ q) s0 s0.heap ∧
  va_Z "jdk/internal/util/Preconditions" "SIOOBE_FORMATTER" "Ljava/util/function/BiFunction;" (ro 2) (fun q => B ≤ q) s0 s0.heap ∧
  va_Zq "java/lang/Throwable" "UNASSIGNED_STACK" "[Ljava/lang/StackTraceElement;" (fun q => B ≤ q) s0 s0.heap ∧ va_Zq "java/lang/Throwable" "SUPPRESSED_SENTINEL" "Ljava/util/List;" (fun q => B ≤ q) s0 s0.heap ∧
  (∀ x y, x < 4 → y < 4 → ¬ x = y → va_Nc (mEX x) (mEX y) s0)
/-- what holds of a method's invocation -/
def mFF (s0 : State) (M : mM) (p : Program) (e : Env) (R : Room) (s : State) (m : MethodId) (meth : Method) (c : Code) (d n0 z0 : Nat) : Prop :=
  p.tables.exec = Jvm.exec ∧ meth.sig.returnType = M.2.2.2.1 ∧ meth.locks = false ∧ c.maxLocals = M.2.2.1 ∧ s.vm.findClass (mCN M.2.1) = some m.cls ∧ meth.name = M.2.2.2.2.1.name ∧ s0.WarmedH s.vm ∧
  (∀ pc i, M.1 pc = some i → ∃ len, decode c.code pc = .ok (i, len) ∧ (misw i = true ∨ len = milen i)) ∧ R.cells = mCap - n0 ∧ R.slots = mSap - z0 ∧ d + 8 ≤ R.frames ∧ 64 * d + 400 ≤ R.locals ∧ M.2.1 < 21 ∧ e.platform.stackTraces = false
theorem mty_char {ci k : Nat} (h : ci < 14) (hk : k < mNF ci) : ¬ mTyT ci k = .char := by
  have key : (List.range 14).all (fun ci => (List.range (mNF ci)).all fun k => !decide (mTyT ci k = .char)) = true := by decide +kernel
  have h1 := List.all_eq_true.mp (List.all_eq_true.mp key ci (List.mem_range.mpr h)) k (List.mem_range.mpr hk)
  simpa using h1
theorem mro_obj {X : mX} {i c : Nat} {fs : List Value} (h : mro X i = some (.inr (c, fs))) : c = 14 := by
  unfold mro at h
  cases h1 : Nat.beq i 0 <;> cases h2 : Nat.beq i 1 <;> cases h3 : Nat.blt i 3 <;> cases h4 : Nat.blt ((i - 3) / 2) mSB.length <;> cases h5 : Nat.beq ((i - 3) % 2) 0 <;> simp only [h1, h2, h3, h4, h5, cond_true, cond_false] at h <;> first | (cases h; rfl) | cases h
section
variable {p : Program} {l : Launch} {e : Env} {R : Room} {s : State} {m : MethodId} {args : Array Value} {below : List Frame} {meth : Method} {c : Code} {H : Heap} {locs : List Loc} {cells slots : Nat} {Q : State → Prop}
variable {B : Nat} {ro : Nat → Value} {D : va_G} {ca : FieldType → ClassId} {s0 : State} {X : mX} {A0 : Array Value} {n0 z0 nL d : Nat} {lsR : Array Slot} {pc : Nat} {ls : mL} {st : List Value} {h : mH} {σ : mS} {M : mM}
theorem mword (hG : mGF B ro D ca s0 X A0) (hF : mFF s0 M p e R s m meth c d n0 z0) {w : Cond} (hw : w ∈ lw_tbl ∧ goodWord w = true) : w.before args s = true :=
  word_at hF.2.2.2.2.2.2.1 (good_of_word hw.2) (hG.2.1 w hw.1)
theorem mGF.K (hG : mGF B ro D ca s0 X A0) (hF : mFF s0 M p e R s m meth c d n0 z0) : va_K D mcl [(ca .int, .int), (ca .byte, .byte), (ca .long, .long)] s := hG.2.2.1.moved hF.2.2.2.2.2.2.1.alike
theorem mtr_lt {a : Nat} (ha : a < mRO) : mtr B ro (.ref a) = .ref (B + a) := if_pos ha
theorem mtr_ge {a : Nat} (ha : ¬ a < mRO) : mtr B ro (.ref a) = ro (a - mRO) := if_neg ha
/-- a cell by its address: of the heap, or there before -/
theorem mget_cases {a : Nat} {x : mC} (hx : mget X h a = some x) : (a < mRO ∧ a < h.1.1 ∧ h.2 a = x) ∨ (¬ a < mRO ∧ mro X (a - mRO) = some x) := by
  unfold mget at hx
  split at hx
  · rename_i h1
    split at hx
    · rename_i h2
      cases hx
      exact Or.inl ⟨h1, h2, rfl⟩
    · cases hx
  · rename_i h1
    exact Or.inr ⟨h1, hx⟩
theorem mtys {ty : FieldType} (h : ty = .int ∨ ty = .byte ∨ ty = .long) : ∃ t0 : Nat, ([(ca .int, .int), (ca .byte, .byte), (ca .long, .long)] : List (ClassId × FieldType))[t0]? = some (ca ty, ty) := by
  rcases h with rfl | rfl | rfl
  · exact ⟨0, rfl⟩
  · exact ⟨1, rfl⟩
  · exact ⟨2, rfl⟩
theorem sim_getf {i ci k : Nat} {z : Int} (hG : mGF B ro D ca s0 X A0) (hF : mFF s0 M p e R s m meth c d n0 z0) (hk : mlk M.2.1 i = (0, ci, k, z)) (ha : mgetf X ci k pc ls st h = some (.inl σ)) (hR : mR B ro D ca s0 n0 z0 nL ls h H locs lsR cells slots) (kk : mKo p l e R s m args below meth c Q B ro D ca s0 n0 z0 nL σ)
    (hdg : decode c.code pc = .ok (.getfield i, 3)) : W p l e R s m args below meth c H locs cells slots Q (F0 m pc lsR (st.map (mtr B ro))) := by
  have hc := mchk_all M.2.1 i
  unfold mchk at hc
  rw [hk] at hc
  simp only [Bool.and_eq_true, decide_eq_true_eq] at hc
  obtain ⟨⟨h1, h2⟩, h3⟩ := hc
  have hlink := mword (args := args) hG hF (mem_spec h3)
  unfold mgetf at ha
  split at ha
  · rename_i a r
    split at ha
    · rename_i cj fs hx
      split at ha
      · rename_i hcj
        subst hcj
        split at ha
        · rename_i v hv
          rcases mget_cases hx with ⟨g1, g2, g3⟩ | ⟨g1, g2⟩
          · refine sim_go ha hR kk (fun kw => ?_)
            have he : (mw B ro ca h)[a]? = some (B + a, .inr (cj, fs.map (mtr B ro))) := by rw [mw_get g2, g3]; rfl
            have hcl : cj < 14 := by
              obtain ⟨rr, hr, -⟩ := hR.2.1 a _ he
              exact (List.getElem?_eq_some_iff.mp hr).1
            show W p l e R s m args below meth c H locs cells slots Q (F0 m pc lsR (mtr B ro (.ref a) :: r.map (mtr B ro)))
            rw [mtr_lt g1]
            exact va_get hF.1 rfl (fun w hw => mword hG hF (mcz_in hcl w hw)) (fun w hw => hw) hF.2.2.2.2.1 (hG.K hF) hR.2.1 a he (mcz_all cj hcl).1 k h2 hlink (fun _ z => z) (v := mtr B ro v) (by rw [List.getElem?_map, hv]; rfl) hdg kw
          · refine sim_go ha hR kk (fun kw => ?_)
            have := mro_obj g2
            subst this
            obtain ⟨b, hb, hO, hOF⟩ := hG.2.2.2.2.2.2.1 _ _ g2
            show W p l e R s m args below meth c H locs cells slots Q (F0 m pc lsR (mtr B ro (.ref a) :: r.map (mtr B ro)))
            rw [mtr_ge g1, hb]
            obtain ⟨cf, k', fi, f, cell, q1, q2, q3, q4, q5, q6⟩ := va_OF.moved hF.2.2.2.2.2.2.1.alike (hOF k v hv)
            exact W.getf hF.1 rfl hF.2.2.2.2.1 hlink q1 q2 (by rw [hR.2.2.1.2.1 b (Array.getElem?_eq_some_iff.mp q3).1 (fun z => q6 z.1)]; exact q3) q4 (v := mtr B ro v) q5 rfl rfl hdg kw
        · cases ha
      · cases ha
    · cases ha
  · cases ha
theorem mb1 (x : Int32) (h : x &&& 1 = x) : x = 0 ∨ x = 1 := by
  have e : x.toBitVec &&& 1#32 = x.toBitVec := by
    have := congrArg Int32.toBitVec h
    simpa using this
  have : x.toBitVec = 0#32 ∨ x.toBitVec = 1#32 := by
    have e2 := congrArg BitVec.toNat e
    rw [BitVec.toNat_and] at e2
    have e3 : x.toBitVec.toNat % 2 = x.toBitVec.toNat := by
      rw [← Nat.and_one_is_mod]
      exact e2
    have : x.toBitVec.toNat < 2 := by omega
    rcases (show x.toBitVec.toNat = 0 ∨ x.toBitVec.toNat = 1 by omega) with q | q
    · exact Or.inl (BitVec.eq_of_toNat_eq q)
    · exact Or.inr (BitVec.eq_of_toNat_eq q)
  rcases this with q | q
  · exact Or.inl (Int32.toBitVec_inj.mp (by simpa using q))
  · exact Or.inr (Int32.toBitVec_inj.mp (by simpa using q))
theorem mb8 (x : Int32) (h : x.toInt8.toInt32 = x) : -128 ≤ x ∧ x ≤ 127 := by
  rw [← h]
  constructor
  · rw [Int32.le_iff_toInt_le]
    have := Int8.le_toInt x.toInt8
    simp only [Int8.toInt_toInt32]
    simpa using this
  · rw [Int32.le_iff_toInt_le]
    have := Int8.toInt_lt x.toInt8
    simp only [Int8.toInt_toInt32]
    have e : (127 : Int32).toInt = 127 := by decide
    rw [e]
    omega
/-- what mfit lets through is as it is -/
theorem mfit_spec {ty : FieldType} {v : Value} (h : mfit ty v = true) : narrow ty (mtr B ro v) = mtr B ro v ∧ (ty = .char ∨ fits ty (mtr B ro v) = true) := by
  match ty, v, h with
  | .int, .int x, _ => exact ⟨rfl, Or.inr rfl⟩
  | .long, .long x, _ => exact ⟨rfl, Or.inr rfl⟩
  | .boolean, .int x, h =>
    have h2 : x &&& 1 = x := of_decide_eq_true h
    refine ⟨congrArg Value.int h2, Or.inr ?_⟩
    show (x == 0 || x == 1) = true
    rcases mb1 x h2 with q | q
    · rw [q]; rfl
    · rw [q]; rfl
  | .byte, .int x, h =>
    have h1 : x.toInt8.toInt32 = x := of_decide_eq_true h
    refine ⟨congrArg Value.int h1, Or.inr ?_⟩
    have h2 := mb8 x h1
    show (decide (-128 ≤ x) && decide (x ≤ 127)) = true
    rw [decide_eq_true h2.1, decide_eq_true h2.2]
    rfl
  | .char, .int x, h => exact ⟨congrArg Value.int (show x.toUInt32.toUInt16.toUInt32.toInt32 = x from of_decide_eq_true h), Or.inl rfl⟩
  | .object _, .ref a, h =>
    have h1 : a < mRO := of_decide_eq_true h
    rw [mtr_lt h1]
    exact ⟨rfl, Or.inr rfl⟩
  | .array _, .ref a, h =>
    have h1 : a < mRO := of_decide_eq_true h
    rw [mtr_lt h1]
    exact ⟨rfl, Or.inr rfl⟩
/-- putfield, with the heap's size -/
theorem mv_put {own C : String} {T : u_T} {N ci index : Nat} {Ts : List Cond} {tys : List (ClassId × FieldType)} {ws : va_W} {A : Nat → Prop} {H0 : Heap} {a : Nat} {ls : Array Slot} {rest : List Value} (hexec : p.tables.exec = Jvm.exec) (hts : ∀ w ∈ Ts, w.before args s = true) (hin : ∀ w ∈ u_ws C T N, w ∈ Ts) (ty0 : Nat → FieldType) (hty : ∀ k, k < N → parseFieldDescriptor (T k).2.2.1 = some (ty0 k)) (hnm : ∀ a, a < N → ∀ b, b < N → a ≠ b → (T a).2.1 ≠ (T b).2.1) (hown : s.vm.findClass own = some m.cls) (hK : va_K D mcl tys s) (hP : va_P D mcl ws H) (hD : va_D A ws) (hS0 : va_S A H0 H locs) (q0 : Nat) {fs : List Value} (he : ws[q0]? = some (a, .inr (ci, fs))) (hc : mcl[ci]? = some (C, T, N)) (k : Nat) (hk : k < N) (hlink : (Cond.fieldLink own index (T k).1 (T k).2.1 (T k).2.2.1).before args s = true)
    (hfin : (T k).2.2.2 = false ∨ (meth.name = "<init>" ∧ (T k).1 = own)) {ty : FieldType} {v : Value} (hd : parseFieldDescriptor (T k).2.2.1 = some ty) (hn : narrow ty v = v) (hfit : fits ty v = true) (hl : k < fs.length) (hdg : decode c.code pc = .ok (.putfield index, 3))
    (kk : ∀ (H1 : Heap) (locs1 : List Loc), va_P D mcl (ws.set q0 (a, .inr (ci, fs.set k v))) H1 → va_S A H0 H1 locs1 → H1.size = H.size → W p l e R s m args below meth c H1 locs1 cells slots Q (F0 m (pc + 3) ls rest)) : W p l e R s m args below meth c H locs cells slots Q (F0 m pc ls (v :: .ref a :: rest)) := by
  have hap := va_apart (own := own) hts hin ty0 hty hnm hK hc
  obtain ⟨r, h1, cell, q1, q2, q3, q4⟩ := hP q0 _ he
  have hr : r = (C, T, N) := Option.some.inj (h1.symm.trans hc)
  subst hr
  obtain ⟨hS, hfc, kC, hkC, hkind⟩ := hK.1 ci _ hc
  obtain ⟨cf, kf, fi, f, hi, hsl⟩ := hS k hk
  have hlay := hts _ (hin _ (u_in_lay hk))
  have hst := (u_facts hfc hkC (u_lays hts hin hk) hi).1
  have fin : ∀ H' : Heap, H'[a]? = some (cell.setSlot f.slot v) → H'.size = H.size → (∀ q, q ≠ a → H'[q]? = H[q]?) → W p l e R s m args below meth c H' (locs ++ [⟨a, f.slot⟩]) cells slots Q (F0 m (pc + 3) ls rest) := by
    intro H' e1 e2 e3
    rw [hsl] at e1 ⊢
    exact kk H' _ (hP.set hD he ⟨_, hc, t_OB.to (V := updV (vp_V fs) k v) ⟨_, e1, q2, q3, t_set q4 hap hk v⟩ (fun j _ => vp_updV_set hl v j)⟩ e3) (hS0.put e2 e3 (hD.2 q0 _ he)) e2
  unfold u_lay at hlay
  by_cases hf : (T k).2.2.2 = true
  · rw [if_pos hf] at hlay
    rcases hfin with hfin | ⟨hin2, hdecl⟩
    · rw [hf] at hfin; cases hfin
    have hcf : m.cls = cf := by
      obtain ⟨_, _, c', _, _, _, -, -, hf', -, -, -, hown2, -⟩ := Cond.laysFinal_spec hlay
      have e1 : c' = cf := by have := hi.symm.trans hf'; simp at this; exact this.1.symm
      rw [hdecl] at hown2
      rw [← e1]; exact Option.some.inj (hown.symm.trans hown2)
    have h6 := u_fits hfc hkC hkind (Or.inr hlay) hi hd hn hfit
    exact W.putFinK hexec rfl hown hlink hi hst hcf hin2 (by rw [q2]; exact h6) q1 q3 (by rw [hsl]; exact k2_hasslot (q4 k hk)) rfl rfl hdg fin
  · rw [if_neg hf] at hlay
    have h6 := u_store hfc hkC hkind hlay hi hd hn hfit
    exact W.putK hexec rfl (f := f) ⟨hown, hlink, ⟨_, _, _, hi⟩, hst⟩ (by rw [q2]; exact h6) q1 q3 (by rw [hsl]; exact k2_hasslot (q4 k hk)) rfl rfl hdg fin

theorem sim_putf {i ci k : Nat} {z : Int} (hG : mGF B ro D ca s0 X A0) (hF : mFF s0 M p e R s m meth c d n0 z0) (hk : mlk M.2.1 i = (0, ci, k, z)) (ha : mputf (M.2.2.2.2.1.name == "<init>") M.2.1 ci k pc ls st h = some (.inl σ)) (hR : mR B ro D ca s0 n0 z0 nL ls h H locs lsR cells slots) (kk : mKo p l e R s m args below meth c Q B ro D ca s0 n0 z0 nL σ)
    (hdg : decode c.code pc = .ok (.putfield i, 3)) : W p l e R s m args below meth c H locs cells slots Q (F0 m pc lsR (st.map (mtr B ro))) := by
  have hc := mchk_all M.2.1 i
  unfold mchk at hc
  rw [hk] at hc
  simp only [Bool.and_eq_true, decide_eq_true_eq] at hc
  obtain ⟨⟨h1, h2⟩, h3⟩ := hc
  have hlink := mword (args := args) hG hF (mem_spec h3)
  unfold mputf at ha
  split at ha
  · rename_i v a r
    split at ha
    · rename_i hlt
      split at ha
      · rename_i cj fs hx
        split at ha
        · rename_i hcond
          obtain ⟨rfl, hkl, hfit, hini⟩ := hcond
          cases ha
          have he : (mw B ro ca h)[a]? = some (B + a, .inr (cj, fs.map (mtr B ro))) := by rw [mw_get hlt.2, hx]; rfl
          have hcl : cj < 14 := by
            obtain ⟨rr, hr, -⟩ := hR.2.1 a _ he
            exact (List.getElem?_eq_some_iff.mp hr).1
          obtain ⟨t1, t2, t3⟩ := mcz_ty hcl k h2
          obtain ⟨hn, hfi⟩ := mfit_spec (B := B) (ro := ro) hfit
          show W p l e R s m args below meth c H locs cells slots Q (F0 m pc lsR (mtr B ro v :: mtr B ro (.ref a) :: r.map (mtr B ro)))
          rw [mtr_lt hlt.1]
          refine mv_put hF.1 (fun w hw => mword hG hF (mcz_in hcl w hw)) (fun w hw => hw) (mTyT cj) (fun k hk => (mcz_ty hcl k hk).1) (mcz_nm hcl) hF.2.2.2.2.1 (hG.K hF) hR.2.1 mw_D2 hR.2.2.1 a he (mcz_all cj hcl).1 k h2 hlink ?_ t1 hn ?_ (by rw [List.length_map]; exact hkl) hdg (fun H1 locs1 hP1 hS1 hz1 => ?_)
          · rcases hini with q | ⟨q1, q2⟩
            · exact Or.inl q
            · refine Or.inr ⟨?_, ?_⟩
              · rw [hF.2.2.2.2.2.1]; exact eq_of_beq q1
              · rw [t2, q2]
          · rcases hfi with q | q
            · exact absurd q (mty_char hcl h2)
            · exact q
          · refine kk H1 locs1 lsR cells slots ⟨hR.1, ?_, hS1, fun hz => ?_, hR.2.2.2.2.1, hR.2.2.2.2.2⟩
            · rw [mw_set (x := .inr (cj, fs.set k v)) (by simp [mcv, List.map_set])] at hP1
              exact hP1
            · rw [hz1]; exact hR.2.2.2.1 hz
        · cases ha
      · cases ha
    · cases ha
  · cases ha
end
