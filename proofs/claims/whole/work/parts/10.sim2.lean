/-! the small machine's steps are the machine's: the instructions that touch cells -/
/-- what holds of the start s0, once and for all -/
def mGF (B : Nat) (ro : Nat → Value) (D : va_G) (ca : FieldType → ClassId) (s0 : State) (X : mX) (A0 : Array Value) : Prop :=
  B = s0.heap.size ∧ (∀ w ∈ lw_tbl, w.before A0 s0 = true) ∧ va_K D mcl [(ca .int, .int), (ca .byte, .byte), (ca .long, .long)] s0 ∧
  (∀ i, ro i = .null ∨ ∃ a, ro i = .ref a) ∧
  (∀ i ty n f, mro X i = some (.inl (ty, n, .inl f)) → ∃ a, ro i = .ref a ∧ va_T ty a n (fun j => .int (f j)) (fun q => B ≤ q) s0 s0.heap) ∧
  (∀ i ty n f, mro X i = some (.inl (ty, n, .inr (.inl f))) → ∃ a, ro i = .ref a ∧ va_T ty a n (fun j => .long (f j)) (fun q => B ≤ q) s0 s0.heap) ∧
  (∀ i fs, mro X i = some (.inr (14, fs)) → ∃ a, ro i = .ref a ∧ va_O "java/lang/String" a (fun q => B ≤ q) s0 s0.heap ∧ ∀ k v, fs[k]? = some v → va_OF (mTT 14 k).1 (mTT 14 k).2.1 (mTT 14 k).2.2.1 (mtr B ro v) a (fun q => B ≤ q) s0 s0.heap) ∧
  (∀ o i j z1 z2, mlk o i = (5, j, z1, z2) → ∃ a, ro (3 + 2 * j) = .ref a ∧ vk_R (mCN o) i (mST.getD j "") a s0) ∧
  (∃ a, ro 1 = .ref a ∧ va_Z "FormatPress$Decimal" "TENS" "[J" (.ref a) (fun q => B ≤ q) s0 s0.heap) ∧ va_Z "java/lang/String" "COMPACT_STRINGS" "Z" (.int 1) (fun q => B ≤ q) s0 s0.heap ∧
  va_Z "jdk/internal/util/Preconditions" "SIOOBE_FORMATTER" "Ljava/util/function/BiFunction;" (ro 2) (fun q => B ≤ q) s0 s0.heap ∧
  va_Zq "java/lang/Throwable" "UNASSIGNED_STACK" "[Ljava/lang/StackTraceElement;" (fun q => B ≤ q) s0 s0.heap ∧ va_Zq "java/lang/Throwable" "SUPPRESSED_SENTINEL" "Ljava/util/List;" (fun q => B ≤ q) s0 s0.heap ∧
  (∀ x y, x < 4 → y < 4 → ¬ x = y → va_Nc (mEX x) (mEX y) s0)
/-- what holds of a method's invocation -/
def mFF (s0 : State) (M : mM) (p : Program) (e : Env) (R : Room) (s : State) (m : MethodId) (meth : Method) (c : Code) (d n0 z0 : Nat) : Prop :=
  p.tables.exec = Jvm.exec ∧ meth.sig.returnType = M.2.2.2.1 ∧ meth.locks = false ∧ c.maxLocals = M.2.2.1 ∧ s.vm.findClass (mCN M.2.1) = some m.cls ∧ meth.name = M.2.2.2.2.1.name ∧ s0.WarmedH s.vm ∧
  (∀ pc i, M.1 pc = some i → ∃ len, decode c.code pc = .ok (i, len) ∧ (misw i = true ∨ len = milen i)) ∧ R.cells = mCap - n0 ∧ R.slots = mSap - z0 ∧ d + 8 ≤ R.frames ∧ 64 * d + 400 ≤ R.locals ∧ M.2.1 < 21 ∧ e.platform.stackTraces = false
theorem mro_obj {X : mX} {i c : Nat} {fs : List Value} (h : mro X i = some (.inr (c, fs))) : c = 14 := by
  unfold mro at h
  cases h1 : Nat.beq i 0 <;> cases h2 : Nat.beq i 1 <;> cases h3 : Nat.blt i 3 <;> cases h4 : Nat.blt ((i - 3) / 2) mSB.length <;> cases h5 : Nat.beq ((i - 3) % 2) 0 <;> simp only [h1, h2, h3, h4, h5, cond_true, cond_false] at h <;> first | (cases h; rfl) | cases h
section
variable {p : Program} {l : Launch} {e : Env} {R : Room} {s : State} {m : MethodId} {args : Array Value} {below : List Frame} {meth : Method} {c : Code} {H : Heap} {locs : List Loc} {cells slots : Nat} {Q : State → Prop}
variable {B : Nat} {ro : Nat → Value} {D : va_G} {ca : FieldType → ClassId} {s0 : State} {X : mX} {A0 : Array Value} {n0 z0 nL d : Nat} {lsR : Array Slot} {pc : Nat} {ls : mL} {st : List Value} {h : mH} {σ : mS} {M : mM}
theorem mword (hG : mGF B ro D ca s0 X A0) (hF : mFF s0 M p e R s m meth c d n0 z0) {w : Cond} (hw : w ∈ lw_tbl ∧ goodWord w = true) : w.before args s = true :=
  word_at hF.2.2.2.2.2.2.1 (good_of_word hw.2) (hG.2.1 w hw.1)
theorem mGF.K (hG : mGF B ro D ca s0 X A0) (hF : mFF s0 M p e R s m meth c d n0 z0) : va_K D mcl [(ca .int, .int), (ca .byte, .byte), (ca .long, .long)] s := hG.2.2.1.moved hF.2.2.2.2.2.2.1.alike
theorem mtr_lt {a : Nat} (ha : a < mRO) : mtr B ro (.ref a) = .ref (B + a) := if_pos ha
theorem mtr_ge {a : Nat} (ha : ¬ a < mRO) : mtr B ro (.ref a) = ro (a - mRO) := if_neg ha
/-- a cell by its address: of the heap, or there before -/
theorem mget_cases {a : Nat} {x : mC} (hx : mget X h a = some x) : (a < mRO ∧ a < h.1.1 ∧ h.2 a = x) ∨ (¬ a < mRO ∧ mro X (a - mRO) = some x) := by
  unfold mget at hx
  split at hx
  · rename_i h1
    split at hx
    · rename_i h2
      cases hx
      exact Or.inl ⟨h1, h2, rfl⟩
    · cases hx
  · rename_i h1
    exact Or.inr ⟨h1, hx⟩
theorem mtys {ty : FieldType} (h : ty = .int ∨ ty = .byte ∨ ty = .long) : ∃ t0 : Nat, ([(ca .int, .int), (ca .byte, .byte), (ca .long, .long)] : List (ClassId × FieldType))[t0]? = some (ca ty, ty) := by
  rcases h with rfl | rfl | rfl
  · exact ⟨0, rfl⟩
  · exact ⟨1, rfl⟩
  · exact ⟨2, rfl⟩
theorem sim_getf {i ci k : Nat} {z : Int} (hG : mGF B ro D ca s0 X A0) (hF : mFF s0 M p e R s m meth c d n0 z0) (hk : mlk M.2.1 i = (0, ci, k, z)) (ha : mgetf X ci k pc ls st h = some (.inl σ)) (hR : mR B ro D ca s0 n0 z0 nL ls h H locs lsR cells slots) (kk : mKo p l e R s m args below meth c Q B ro D ca s0 n0 z0 nL σ)
    (hdg : decode c.code pc = .ok (.getfield i, 3)) : W p l e R s m args below meth c H locs cells slots Q (F0 m pc lsR (st.map (mtr B ro))) := by
  have hc := mchk_all M.2.1 i
  unfold mchk at hc
  rw [hk] at hc
  simp only [Bool.and_eq_true, decide_eq_true_eq] at hc
  obtain ⟨⟨h1, h2⟩, h3⟩ := hc
  have hlink := mword (args := args) hG hF (mem_spec h3)
  unfold mgetf at ha
  split at ha
  · rename_i a r
    split at ha
    · rename_i cj fs hx
      split at ha
      · rename_i hcj
        subst hcj
        split at ha
        · rename_i v hv
          rcases mget_cases hx with ⟨g1, g2, g3⟩ | ⟨g1, g2⟩
          · refine sim_go ha hR kk (fun kw => ?_)
            have he : (mw B ro ca h)[a]? = some (B + a, .inr (cj, fs.map (mtr B ro))) := by rw [mw_get g2, g3]; rfl
            have hcl : cj < 14 := by
              obtain ⟨rr, hr, -⟩ := hR.2.1 a _ he
              exact (List.getElem?_eq_some_iff.mp hr).1
            show W p l e R s m args below meth c H locs cells slots Q (F0 m pc lsR (mtr B ro (.ref a) :: r.map (mtr B ro)))
            rw [mtr_lt g1]
            exact va_get hF.1 rfl (fun w hw => mword hG hF (mcz_in hcl w hw)) (fun w hw => hw) hF.2.2.2.2.1 (hG.K hF) hR.2.1 a he (mcz_all cj hcl).1 k h2 hlink (fun _ z => z) (v := mtr B ro v) (by rw [List.getElem?_map, hv]; rfl) hdg kw
          · refine sim_go ha hR kk (fun kw => ?_)
            have := mro_obj g2
            subst this
            obtain ⟨b, hb, hO, hOF⟩ := hG.2.2.2.2.2.2.1 _ _ g2
            show W p l e R s m args below meth c H locs cells slots Q (F0 m pc lsR (mtr B ro (.ref a) :: r.map (mtr B ro)))
            rw [mtr_ge g1, hb]
            obtain ⟨cf, k', fi, f, cell, q1, q2, q3, q4, q5, q6⟩ := va_OF.moved hF.2.2.2.2.2.2.1.alike (hOF k v hv)
            exact W.getf hF.1 rfl hF.2.2.2.2.1 hlink q1 q2 (by rw [hR.2.2.1.2.1 b (Array.getElem?_eq_some_iff.mp q3).1 q6]; exact q3) q4 (v := mtr B ro v) q5 rfl rfl hdg kw
        · cases ha
      · cases ha
    · cases ha
  · cases ha
/-- what mfit lets through is as it is -/
theorem mfit_spec (hro : ∀ i, (ro i).category = 1) {ty : FieldType} {v : Value} (h : mfit ty v = true) : narrow ty (mtr B ro v) = mtr B ro v ∧ fits ty (mtr B ro v) = true := by
  cases ty <;> cases v <;> simp only [mfit, decide_eq_true_eq] at h <;> first
    | cases h
    | exact ⟨rfl, rfl⟩
    | (rename_i a; exact ⟨h, by show fits _ (Value.int a) = true; rw [← h]; first | rfl | (simp [narrow, fits])⟩)
    | (rw [mtr_lt h]; exact ⟨rfl, rfl⟩)
    | skip
end
