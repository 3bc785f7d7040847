/-! the small machine's steps are the machine's: the instructions that touch no cell -/
theorem mtgt_spec {pc t : Nat} {off : Int} (h : mtgt pc off = some t) : (pc : Int) + off = (t : Int) := by
  unfold mtgt at h
  split at h
  · rename_i t' e
    cases h
    exact e
  · cases h
section
variable {p : Program} {l : Launch} {e : Env} {R : Room} {s : State} {m : MethodId} {args : Array Value} {below : List Frame} {meth : Method} {c : Code} {H : Heap} {locs : List Loc} {cells slots : Nat} {Q : State → Prop}
variable {B : Nat} {ro : Nat → Value} {D : va_G} {ca : FieldType → ClassId} {s0 : State} {n0 z0 nL : Nat} {lsR : Array Slot} {pc : Nat} {ls : mL} {st : List Value} {h : mH} {σ : mS}
/-- how the two stand to each other within a method -/
def mR (B : Nat) (ro : Nat → Value) (D : va_G) (ca : FieldType → ClassId) (s0 : State) (n0 z0 nL : Nat) (ls : mL) (h : mH) (H : Heap) (locs : List Loc) (lsR : Array Slot) (cells slots : Nat) : Prop :=
  mLH (mtr B ro) lsR nL ls ∧ va_P D mcl (mw B ro ca h) H ∧ va_S (mAr B h.1.1) s0.heap H locs ∧ (h.1.2.1 = 0 → H.size = B + h.1.1) ∧ n0 + cells = h.1.1 + h.1.2.1 ∧ z0 + slots = h.1.2.2
/-- from the state σ on the machine comes to Q -/
def mKo (p : Program) (l : Launch) (e : Env) (R : Room) (s : State) (m : MethodId) (args : Array Value) (below : List Frame) (meth : Method) (c : Code) (Q : State → Prop) (B : Nat) (ro : Nat → Value) (D : va_G) (ca : FieldType → ClassId) (s0 : State) (n0 z0 nL : Nat) (σ : mS) : Prop :=
  ∀ (H' : Heap) (locs' : List Loc) (lsR' : Array Slot) (cells' slots' : Nat), mR B ro D ca s0 n0 z0 nL σ.2.1 σ.2.2.2 H' locs' lsR' cells' slots' → W p l e R s m args below meth c H' locs' cells' slots' Q (F0 m σ.1 lsR' (σ.2.2.1.map (mtr B ro)))
theorem sim_go {pc' : Nat} {st' : List Value} (ha : mgo pc' ls st' h = some (.inl σ)) (hR : mR B ro D ca s0 n0 z0 nL ls h H locs lsR cells slots) (kk : mKo p l e R s m args below meth c Q B ro D ca s0 n0 z0 nL σ)
    (hrow : W p l e R s m args below meth c H locs cells slots Q (F0 m pc' lsR (st'.map (mtr B ro))) → W p l e R s m args below meth c H locs cells slots Q (F0 m pc lsR (st.map (mtr B ro)))) : W p l e R s m args below meth c H locs cells slots Q (F0 m pc lsR (st.map (mtr B ro))) := by
  cases ha
  exact hrow (kk H locs lsR cells slots hR)
theorem sim_m1i {f : Int32 → Value} (ha : m1i f pc ls st h = some (.inl σ)) (hR : mR B ro D ca s0 n0 z0 nL ls h H locs lsR cells slots) (kk : mKo p l e R s m args below meth c Q B ro D ca s0 n0 z0 nL σ)
    (hrow : ∀ (x : Int32) (r : List Value), W p l e R s m args below meth c H locs cells slots Q (F0 m (pc + 1) lsR (mtr B ro (f x) :: r)) → W p l e R s m args below meth c H locs cells slots Q (F0 m pc lsR (.int x :: r))) : W p l e R s m args below meth c H locs cells slots Q (F0 m pc lsR (st.map (mtr B ro))) := by
  unfold m1i at ha
  split at ha
  · exact sim_go ha hR kk (fun k => hrow _ _ k)
  · cases ha
theorem sim_m1l {f : Int64 → Value} (ha : m1l f pc ls st h = some (.inl σ)) (hR : mR B ro D ca s0 n0 z0 nL ls h H locs lsR cells slots) (kk : mKo p l e R s m args below meth c Q B ro D ca s0 n0 z0 nL σ)
    (hrow : ∀ (x : Int64) (r : List Value), W p l e R s m args below meth c H locs cells slots Q (F0 m (pc + 1) lsR (mtr B ro (f x) :: r)) → W p l e R s m args below meth c H locs cells slots Q (F0 m pc lsR (.long x :: r))) : W p l e R s m args below meth c H locs cells slots Q (F0 m pc lsR (st.map (mtr B ro))) := by
  unfold m1l at ha
  split at ha
  · exact sim_go ha hR kk (fun k => hrow _ _ k)
  · cases ha
theorem sim_m2i {f : Int32 → Int32 → Value} (ha : m2i f pc ls st h = some (.inl σ)) (hR : mR B ro D ca s0 n0 z0 nL ls h H locs lsR cells slots) (kk : mKo p l e R s m args below meth c Q B ro D ca s0 n0 z0 nL σ)
    (hrow : ∀ (x y : Int32) (r : List Value), W p l e R s m args below meth c H locs cells slots Q (F0 m (pc + 1) lsR (mtr B ro (f x y) :: r)) → W p l e R s m args below meth c H locs cells slots Q (F0 m pc lsR (.int y :: .int x :: r))) : W p l e R s m args below meth c H locs cells slots Q (F0 m pc lsR (st.map (mtr B ro))) := by
  unfold m2i at ha
  split at ha
  · exact sim_go ha hR kk (fun k => hrow _ _ _ k)
  · cases ha
theorem sim_m2l {f : Int64 → Int64 → Value} (ha : m2l f pc ls st h = some (.inl σ)) (hR : mR B ro D ca s0 n0 z0 nL ls h H locs lsR cells slots) (kk : mKo p l e R s m args below meth c Q B ro D ca s0 n0 z0 nL σ)
    (hrow : ∀ (x y : Int64) (r : List Value), W p l e R s m args below meth c H locs cells slots Q (F0 m (pc + 1) lsR (mtr B ro (f x y) :: r)) → W p l e R s m args below meth c H locs cells slots Q (F0 m pc lsR (.long y :: .long x :: r))) : W p l e R s m args below meth c H locs cells slots Q (F0 m pc lsR (st.map (mtr B ro))) := by
  unfold m2l at ha
  split at ha
  · exact sim_go ha hR kk (fun k => hrow _ _ _ k)
  · cases ha
theorem sim_m2j {f : Int64 → Int32 → Value} (ha : m2j f pc ls st h = some (.inl σ)) (hR : mR B ro D ca s0 n0 z0 nL ls h H locs lsR cells slots) (kk : mKo p l e R s m args below meth c Q B ro D ca s0 n0 z0 nL σ)
    (hrow : ∀ (x : Int64) (y : Int32) (r : List Value), W p l e R s m args below meth c H locs cells slots Q (F0 m (pc + 1) lsR (mtr B ro (f x y) :: r)) → W p l e R s m args below meth c H locs cells slots Q (F0 m pc lsR (.int y :: .long x :: r))) : W p l e R s m args below meth c H locs cells slots Q (F0 m pc lsR (st.map (mtr B ro))) := by
  unfold m2j at ha
  split at ha
  · exact sim_go ha hR kk (fun k => hrow _ _ _ k)
  · cases ha
theorem sim_mdvi {f : Int32 → Int32 → Value} (ha : mdvi f pc ls st h = some (.inl σ)) (hR : mR B ro D ca s0 n0 z0 nL ls h H locs lsR cells slots) (kk : mKo p l e R s m args below meth c Q B ro D ca s0 n0 z0 nL σ)
    (hrow : ∀ (x y : Int32) (r : List Value), ¬ y = 0 → W p l e R s m args below meth c H locs cells slots Q (F0 m (pc + 1) lsR (mtr B ro (f x y) :: r)) → W p l e R s m args below meth c H locs cells slots Q (F0 m pc lsR (.int y :: .int x :: r))) : W p l e R s m args below meth c H locs cells slots Q (F0 m pc lsR (st.map (mtr B ro))) := by
  unfold mdvi at ha
  split at ha
  · split at ha
    · cases ha
    · rename_i hy
      exact sim_go ha hR kk (fun k => hrow _ _ _ hy k)
  · cases ha
theorem sim_mdvl {f : Int64 → Int64 → Value} (ha : mdvl f pc ls st h = some (.inl σ)) (hR : mR B ro D ca s0 n0 z0 nL ls h H locs lsR cells slots) (kk : mKo p l e R s m args below meth c Q B ro D ca s0 n0 z0 nL σ)
    (hrow : ∀ (x y : Int64) (r : List Value), ¬ y = 0 → W p l e R s m args below meth c H locs cells slots Q (F0 m (pc + 1) lsR (mtr B ro (f x y) :: r)) → W p l e R s m args below meth c H locs cells slots Q (F0 m pc lsR (.long y :: .long x :: r))) : W p l e R s m args below meth c H locs cells slots Q (F0 m pc lsR (st.map (mtr B ro))) := by
  unfold mdvl at ha
  split at ha
  · split at ha
    · cases ha
    · rename_i hy
      exact sim_go ha hR kk (fun k => hrow _ _ _ hy k)
  · cases ha
theorem sim_mif1 {f : Int32 → Bool} {off : Int} (ha : mif1 f off pc ls st h = some (.inl σ)) (hR : mR B ro D ca s0 n0 z0 nL ls h H locs lsR cells slots) (kk : mKo p l e R s m args below meth c Q B ro D ca s0 n0 z0 nL σ)
    (hrow : ∀ (x : Int32) (t : Nat) (r : List Value), (pc : Int) + off = (t : Int) → (f x = true → W p l e R s m args below meth c H locs cells slots Q (F0 m t lsR r)) → (f x = false → W p l e R s m args below meth c H locs cells slots Q (F0 m (pc + 3) lsR r)) → W p l e R s m args below meth c H locs cells slots Q (F0 m pc lsR (.int x :: r))) : W p l e R s m args below meth c H locs cells slots Q (F0 m pc lsR (st.map (mtr B ro))) := by
  unfold mif1 at ha
  split at ha
  · rename_i x r
    split at ha
    · rename_i t ht
      refine hrow x t _ (mtgt_spec ht) (fun hf => ?_) (fun hf => ?_)
      · rw [hf, cond_true] at ha
        cases ha
        exact kk H locs lsR cells slots hR
      · rw [hf, cond_false] at ha
        cases ha
        exact kk H locs lsR cells slots hR
    · cases ha
  · cases ha
theorem sim_mif2 {f : Int32 → Int32 → Bool} {off : Int} (ha : mif2 f off pc ls st h = some (.inl σ)) (hR : mR B ro D ca s0 n0 z0 nL ls h H locs lsR cells slots) (kk : mKo p l e R s m args below meth c Q B ro D ca s0 n0 z0 nL σ)
    (hrow : ∀ (x y : Int32) (t : Nat) (r : List Value), (pc : Int) + off = (t : Int) → (f x y = true → W p l e R s m args below meth c H locs cells slots Q (F0 m t lsR r)) → (f x y = false → W p l e R s m args below meth c H locs cells slots Q (F0 m (pc + 3) lsR r)) → W p l e R s m args below meth c H locs cells slots Q (F0 m pc lsR (.int y :: .int x :: r))) : W p l e R s m args below meth c H locs cells slots Q (F0 m pc lsR (st.map (mtr B ro))) := by
  unfold mif2 at ha
  split at ha
  · rename_i y x r
    split at ha
    · rename_i t ht
      refine hrow x y t _ (mtgt_spec ht) (fun hf => ?_) (fun hf => ?_)
      · rw [hf, cond_true] at ha
        cases ha
        exact kk H locs lsR cells slots hR
      · rw [hf, cond_false] at ha
        cases ha
        exact kk H locs lsR cells slots hR
    · cases ha
  · cases ha
theorem sim_mjmp {off : Int} {st' : List Value} (ha : mjmp pc off ls st' h = some (.inl σ)) (hR : mR B ro D ca s0 n0 z0 nL ls h H locs lsR cells slots) (kk : mKo p l e R s m args below meth c Q B ro D ca s0 n0 z0 nL σ)
    (hrow : ∀ t : Nat, (pc : Int) + off = (t : Int) → W p l e R s m args below meth c H locs cells slots Q (F0 m t lsR (st'.map (mtr B ro))) → W p l e R s m args below meth c H locs cells slots Q (F0 m pc lsR (st.map (mtr B ro)))) : W p l e R s m args below meth c H locs cells slots Q (F0 m pc lsR (st.map (mtr B ro))) := by
  unfold mjmp at ha
  split at ha
  · rename_i t ht
    exact sim_go ha hR kk (hrow t (mtgt_spec ht))
  · cases ha
theorem sim_ildI {i w : Nat} (ha : mildI i w pc ls st h = some (.inl σ)) (hR : mR B ro D ca s0 n0 z0 nL ls h H locs lsR cells slots) (kk : mKo p l e R s m args below meth c Q B ro D ca s0 n0 z0 nL σ)
    (hrow : ∀ (x : Int32) (r : List Value), lsR[i]? = some (.val (.int x)) → W p l e R s m args below meth c H locs cells slots Q (F0 m (pc + w) lsR (.int x :: r)) → W p l e R s m args below meth c H locs cells slots Q (F0 m pc lsR r)) : W p l e R s m args below meth c H locs cells slots Q (F0 m pc lsR (st.map (mtr B ro))) := by
  unfold mildI at ha
  split at ha
  · rename_i x hx
    exact sim_go ha hR kk (fun k => hrow x _ (hR.1.at hx) k)
  · cases ha
theorem sim_ildL {i w : Nat} (ha : mildL i w pc ls st h = some (.inl σ)) (hR : mR B ro D ca s0 n0 z0 nL ls h H locs lsR cells slots) (kk : mKo p l e R s m args below meth c Q B ro D ca s0 n0 z0 nL σ)
    (hrow : ∀ (x : Int64) (r : List Value), lsR[i]? = some (.val (.long x)) → W p l e R s m args below meth c H locs cells slots Q (F0 m (pc + w) lsR (.long x :: r)) → W p l e R s m args below meth c H locs cells slots Q (F0 m pc lsR r)) : W p l e R s m args below meth c H locs cells slots Q (F0 m pc lsR (st.map (mtr B ro))) := by
  unfold mildL at ha
  split at ha
  · rename_i x hx
    exact sim_go ha hR kk (fun k => hrow x _ (hR.1.at hx) k)
  · cases ha
theorem mtr_ref (hro : ∀ i, ro i = .null ∨ ∃ a, ro i = .ref a) (a : Nat) : mtr B ro (.ref a) = .null ∨ ∃ b, mtr B ro (.ref a) = .ref b := by
  show (if a < mRO then Value.ref (B + a) else ro (a - mRO)) = .null ∨ ∃ b, (if a < mRO then Value.ref (B + a) else ro (a - mRO)) = .ref b
  split
  · exact Or.inr ⟨_, rfl⟩
  · exact hro _
theorem sim_ildA {i w : Nat} (hro : ∀ i, ro i = .null ∨ ∃ a, ro i = .ref a) (ha : mildA i w pc ls st h = some (.inl σ)) (hR : mR B ro D ca s0 n0 z0 nL ls h H locs lsR cells slots) (kk : mKo p l e R s m args below meth c Q B ro D ca s0 n0 z0 nL σ)
    (hrow : ∀ (x : Nat) (r : List Value), lsR[i]? = some (.val (.ref x)) → W p l e R s m args below meth c H locs cells slots Q (F0 m (pc + w) lsR (.ref x :: r)) → W p l e R s m args below meth c H locs cells slots Q (F0 m pc lsR r))
    (hrowN : ∀ (r : List Value), lsR[i]? = some (.val .null) → W p l e R s m args below meth c H locs cells slots Q (F0 m (pc + w) lsR (.null :: r)) → W p l e R s m args below meth c H locs cells slots Q (F0 m pc lsR r)) : W p l e R s m args below meth c H locs cells slots Q (F0 m pc lsR (st.map (mtr B ro))) := by
  unfold mildA at ha
  split at ha
  · rename_i x hx
    have h1 := hR.1.at hx
    cases ha
    have k := kk H locs lsR cells slots hR
    simp only [List.map_cons] at k
    rcases mtr_ref (B := B) hro x with q | ⟨b, q⟩
    · rw [q] at h1 k
      exact hrowN _ h1 k
    · rw [q] at h1 k
      exact hrow b _ h1 k
  · cases ha
theorem sim_istI {i w : Nat} (hro : ∀ i, (ro i).category = 1) (ha : mistI i w pc ls st h = some (.inl σ)) (hR : mR B ro D ca s0 n0 z0 nL ls h H locs lsR cells slots) (kk : mKo p l e R s m args below meth c Q B ro D ca s0 n0 z0 nL σ)
    (hrow : ∀ (x : Int32) (r : List Value), i < nL → (∀ ls' : Array Slot, lv_has ls' nL ((i, Value.int x) :: (mlv (mtr B ro) ls).filter (fun q => !(q.1 == i) && !(q.1 + 1 == i && q.2.category == 2))) → W p l e R s m args below meth c H locs cells slots Q (F0 m (pc + w) ls' r)) → W p l e R s m args below meth c H locs cells slots Q (F0 m pc lsR (.int x :: r))) : W p l e R s m args below meth c H locs cells slots Q (F0 m pc lsR (st.map (mtr B ro))) := by
  unfold mistI at ha
  split at ha
  · rename_i x r
    split at ha
    · rename_i ls' hs
      cases ha
      have hi : i < nL := by
        rw [← hR.1.1]
        simp only [mst1] at hs
        split at hs
        · assumption
        · cases hs
      refine hrow x _ hi (fun lsR' h' => kk H locs lsR' cells slots ⟨mLH.st1 (mtr_cat hro) hR.1.1 hs h', hR.2⟩)
    · cases ha
  · cases ha
theorem sim_istL {i w : Nat} (hro : ∀ i, (ro i).category = 1) (ha : mistL i w pc ls st h = some (.inl σ)) (hR : mR B ro D ca s0 n0 z0 nL ls h H locs lsR cells slots) (kk : mKo p l e R s m args below meth c Q B ro D ca s0 n0 z0 nL σ)
    (hrow : ∀ (x : Int64) (r : List Value), i + 1 < nL → (∀ ls' : Array Slot, lv_has ls' nL ((i, Value.long x) :: (mlv (mtr B ro) ls).filter (fun q => !(q.1 == i) && (!(q.1 == i + 1) && !(q.1 + 1 == i && q.2.category == 2)))) → W p l e R s m args below meth c H locs cells slots Q (F0 m (pc + w) ls' r)) → W p l e R s m args below meth c H locs cells slots Q (F0 m pc lsR (.long x :: r))) : W p l e R s m args below meth c H locs cells slots Q (F0 m pc lsR (st.map (mtr B ro))) := by
  unfold mistL at ha
  split at ha
  · rename_i x r
    split at ha
    · rename_i ls' hs
      cases ha
      have hi : i + 1 < nL := by
        rw [← hR.1.1]
        simp only [mst2] at hs
        split at hs
        · assumption
        · cases hs
      refine hrow x _ hi (fun lsR' h' => kk H locs lsR' cells slots ⟨mLH.st2 (mtr_cat hro) hR.1.1 hs h', hR.2⟩)
    · cases ha
  · cases ha
theorem sim_istA {i w : Nat} (hro : ∀ i, (ro i).category = 1) (hro2 : ∀ i, ro i = .null ∨ ∃ a, ro i = .ref a) (ha : mistA i w pc ls st h = some (.inl σ)) (hR : mR B ro D ca s0 n0 z0 nL ls h H locs lsR cells slots) (kk : mKo p l e R s m args below meth c Q B ro D ca s0 n0 z0 nL σ)
    (hrow : ∀ (x : Nat) (r : List Value), i < nL → (∀ ls' : Array Slot, lv_has ls' nL ((i, Value.ref x) :: (mlv (mtr B ro) ls).filter (fun q => !(q.1 == i) && !(q.1 + 1 == i && q.2.category == 2))) → W p l e R s m args below meth c H locs cells slots Q (F0 m (pc + w) ls' r)) → W p l e R s m args below meth c H locs cells slots Q (F0 m pc lsR (.ref x :: r)))
    (hrowN : ∀ (r : List Value), i < nL → (∀ ls' : Array Slot, lv_has ls' nL ((i, Value.null) :: (mlv (mtr B ro) ls).filter (fun q => !(q.1 == i) && !(q.1 + 1 == i && q.2.category == 2))) → W p l e R s m args below meth c H locs cells slots Q (F0 m (pc + w) ls' r)) → W p l e R s m args below meth c H locs cells slots Q (F0 m pc lsR (.null :: r))) : W p l e R s m args below meth c H locs cells slots Q (F0 m pc lsR (st.map (mtr B ro))) := by
  unfold mistA at ha
  split at ha
  · rename_i x r
    split at ha
    · rename_i ls' hs
      cases ha
      have hi : i < nL := by
        rw [← hR.1.1]
        simp only [mst1] at hs
        split at hs
        · assumption
        · cases hs
      have key : ∀ lsR' : Array Slot, lv_has lsR' nL ((i, mtr B ro (.ref x)) :: (mlv (mtr B ro) ls).filter (fun q => !(q.1 == i) && !(q.1 + 1 == i && q.2.category == 2))) → W p l e R s m args below meth c H locs cells slots Q (F0 m (pc + w) lsR' (r.map (mtr B ro))) :=
        fun lsR' h' => kk H locs lsR' cells slots ⟨mLH.st1 (mtr_cat hro) hR.1.1 hs h', hR.2⟩
      simp only [List.map_cons]
      rcases mtr_ref (B := B) hro2 x with q | ⟨b, q⟩
      · rw [q] at key ⊢
        exact hrowN _ hi key
      · rw [q] at key ⊢
        exact hrow b _ hi key
    · cases ha
  · cases ha
end
