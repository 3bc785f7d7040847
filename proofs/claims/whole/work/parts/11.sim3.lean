/-! the small machine's steps are the machine's: arrays, what is made, constants -/
section
variable {p : Program} {l : Launch} {e : Env} {R : Room} {s : State} {m : MethodId} {args : Array Value} {below : List Frame} {meth : Method} {c : Code} {H : Heap} {locs : List Loc} {cells slots : Nat} {Q : State → Prop}
variable {B : Nat} {ro : Nat → Value} {D : va_G} {ca : FieldType → ClassId} {s0 : State} {X : mX} {A0 : Array Value} {n0 z0 nL d : Nat} {lsR : Array Slot} {pc : Nat} {ls : mL} {st : List Value} {h : mH} {σ : mS} {M : mM}
theorem mro_arr {i : Nat} {ty : FieldType} {n : Nat} {w : (Nat → Int32) ⊕ (Nat → Int64) ⊕ (Nat → UInt32) ⊕ (Nat → UInt64) ⊕ (Nat → Option Nat)} (hm : mro X i = some (.inl (ty, n, w))) : (∃ f, w = .inl f) ∨ ∃ f, w = .inr (.inl f) := by
  unfold mro at hm
  cases h1 : Nat.beq i 0 <;> cases h2 : Nat.beq i 1 <;> cases h3 : Nat.blt i 3 <;> cases h4 : Nat.blt ((i - 3) / 2) mSB.length <;> cases h5 : Nat.beq ((i - 3) % 2) 0 <;> simp only [h1, h2, h3, h4, h5, cond_true, cond_false] at hm <;> first | (cases hm; exact Or.inl ⟨_, rfl⟩) | (cases hm; exact Or.inr ⟨_, rfl⟩) | cases hm
theorem mGF.cat0 (hG : mGF B ro D ca s0 X A0) : ∀ i, (ro i).category = 1 := by
  intro i
  rcases hG.2.2.2.1 i with q | ⟨a, q⟩ <;> rw [q] <;> rfl
/-- loads out of arrays of ints, bytes -/
theorem sim_ald {ty : FieldType} (hty : ty = .int ∨ ty = .byte ∨ ty = .long) (hG : mGF B ro D ca s0 X A0) (hF : mFF s0 M p e R s m meth c d n0 z0) (ha : mald X ty pc ls st h = some (.inl σ)) (hR : mR B ro D ca s0 n0 z0 nL ls h H locs lsR cells slots) (kk : mKo p l e R s m args below meth c Q B ro D ca s0 n0 z0 nL σ)
    (hrow : ∀ (a n t0 : Nat) (f : Nat → Int32) (i : Int32) (r : List Value), (mw B ro ca h)[a]? = some (B + a, .inl (ca ty, n, .inl f)) → ([(ca .int, .int), (ca .byte, .byte), (ca .long, .long)] : List (ClassId × FieldType))[t0]? = some (ca ty, ty) → vp_in i n → W p l e R s m args below meth c H locs cells slots Q (F0 m (pc + 1) lsR (.int (f i.toNatClampNeg) :: r)) → W p l e R s m args below meth c H locs cells slots Q (F0 m pc lsR (.int i :: .ref (B + a) :: r)))
    (hrow2 : ∀ (a : Nat) (cell : Cell) (i v : Int32) (r : List Value), H[a]? = some cell → s.isArrayOf cell ty → cell.vm ≠ .unknown → ¬ (i < 0 ∨ cell.slots.size ≤ i.toNatClampNeg) → cell.slots[i.toNatClampNeg]? = some (.int v) → W p l e R s m args below meth c H locs cells slots Q (F0 m (pc + 1) lsR (.int v :: r)) → W p l e R s m args below meth c H locs cells slots Q (F0 m pc lsR (.int i :: .ref a :: r))) :
    W p l e R s m args below meth c H locs cells slots Q (F0 m pc lsR (st.map (mtr B ro))) := by
  unfold mald at ha
  split at ha
  · rename_i i a r
    split at ha
    · rename_i ty' n f hx
      split at ha
      · rename_i hc
        obtain ⟨rfl, hin⟩ := hc
        refine sim_go ha hR kk (fun kw => ?_)
        show W p l e R s m args below meth c H locs cells slots Q (F0 m pc lsR (.int i :: mtr B ro (.ref a) :: r.map (mtr B ro)))
        rcases mget_cases hx with ⟨g1, g2, g3⟩ | ⟨g1, g2⟩
        · rw [mtr_lt g1]
          obtain ⟨t0, ht0⟩ := mtys (ca := ca) hty
          exact hrow a n t0 f i _ (by rw [mw_get g2, g3]; rfl) ht0 hin kw
        · obtain ⟨b, hb, hT⟩ := hG.2.2.2.2.1 _ _ _ _ g2
          rw [mtr_ge g1, hb]
          obtain ⟨cell, h1, h2, h3, h4, h5, h6, h7⟩ := va_T.moved hF.2.2.2.2.2.2.1.alike hT
          have hlt : i.toNatClampNeg < n := Nat.not_le.mp fun q => hin (Or.inr q)
          refine hrow2 b cell i (f i.toNatClampNeg) _ (by rw [hR.2.2.1.2.1 b (Array.getElem?_eq_some_iff.mp h1).1 (fun z => h7 z.1)]; exact h1) h2 h3 ?_ (h6 _ hlt) kw
          rintro (q | q)
          · exact hin (Or.inl q)
          · omega
      · cases ha
    · cases ha
  · cases ha
theorem sim_lald (hG : mGF B ro D ca s0 X A0) (hF : mFF s0 M p e R s m meth c d n0 z0) (ha : mlald X pc ls st h = some (.inl σ)) (hR : mR B ro D ca s0 n0 z0 nL ls h H locs lsR cells slots) (kk : mKo p l e R s m args below meth c Q B ro D ca s0 n0 z0 nL σ)
    (hdg : decode c.code pc = .ok (.laload, 1)) : W p l e R s m args below meth c H locs cells slots Q (F0 m pc lsR (st.map (mtr B ro))) := by
  unfold mlald at ha
  split at ha
  · rename_i i a r
    split at ha
    · rename_i ty' n f hx
      split at ha
      · rename_i hc
        obtain ⟨rfl, hin⟩ := hc
        refine sim_go ha hR kk (fun kw => ?_)
        show W p l e R s m args below meth c H locs cells slots Q (F0 m pc lsR (.int i :: mtr B ro (.ref a) :: r.map (mtr B ro)))
        rcases mget_cases hx with ⟨g1, g2, g3⟩ | ⟨g1, g2⟩
        · rw [mtr_lt g1]
          exact va_lald hF.1 rfl (hG.K hF) hR.2.1 a 2 (n := n) (f := f) (by rw [mw_get g2, g3]; rfl) rfl hin hdg kw
        · obtain ⟨b, hb, hT⟩ := hG.2.2.2.2.2.1 _ _ _ _ g2
          rw [mtr_ge g1, hb]
          obtain ⟨cell, h1, h2, h3, h4, h5, h6, h7⟩ := va_T.moved hF.2.2.2.2.2.2.1.alike hT
          have hlt : i.toNatClampNeg < n := Nat.not_le.mp fun q => hin (Or.inr q)
          refine W.lald (v := .long (f i.toNatClampNeg)) hF.1 rfl (by rw [hR.2.2.1.2.1 b (Array.getElem?_eq_some_iff.mp h1).1 (fun z => h7 z.1)]; exact h1) h2 h3 ?_ (h6 _ hlt) rfl rfl hdg kw
          rintro (q | q)
          · exact hin (Or.inl q)
          · omega
      · cases ha
    · cases ha
  · cases ha
theorem sim_alen (hG : mGF B ro D ca s0 X A0) (hF : mFF s0 M p e R s m meth c d n0 z0) (ha : malen X pc ls st h = some (.inl σ)) (hR : mR B ro D ca s0 n0 z0 nL ls h H locs lsR cells slots) (kk : mKo p l e R s m args below meth c Q B ro D ca s0 n0 z0 nL σ)
    (hdg : decode c.code pc = .ok (.arraylength, 1)) : W p l e R s m args below meth c H locs cells slots Q (F0 m pc lsR (st.map (mtr B ro))) := by
  unfold malen at ha
  split at ha
  · rename_i a r
    split at ha
    · rename_i ty n w hx
      split at ha
      · rename_i hty
        refine sim_go ha hR kk (fun kw => ?_)
        show W p l e R s m args below meth c H locs cells slots Q (F0 m pc lsR (mtr B ro (.ref a) :: r.map (mtr B ro)))
        rcases mget_cases hx with ⟨g1, g2, g3⟩ | ⟨g1, g2⟩
        · rw [mtr_lt g1]
          obtain ⟨t0, ht0⟩ := mtys (ca := ca) hty
          exact va_alen hF.1 rfl (hG.K hF) hR.2.1 a t0 (x := (n, w)) (by rw [mw_get g2, g3]; rfl) ht0 rfl hdg kw
        · rcases mro_arr g2 with ⟨f, rfl⟩ | ⟨f, rfl⟩
          · obtain ⟨b, hb, hT⟩ := hG.2.2.2.2.1 _ _ _ _ g2
            rw [mtr_ge g1, hb]
            obtain ⟨cell, h1, h2, h3, h4, h5, h6, h7⟩ := va_T.moved hF.2.2.2.2.2.2.1.alike hT
            exact W.alen (n := Int32.ofNat n) hF.1 rfl (by rw [hR.2.2.1.2.1 b (Array.getElem?_eq_some_iff.mp h1).1 (fun z => h7 z.1)]; exact h1) h2 h5 rfl rfl hdg kw
          · obtain ⟨b, hb, hT⟩ := hG.2.2.2.2.2.1 _ _ _ _ g2
            rw [mtr_ge g1, hb]
            obtain ⟨cell, h1, h2, h3, h4, h5, h6, h7⟩ := va_T.moved hF.2.2.2.2.2.2.1.alike hT
            exact W.alen (n := Int32.ofNat n) hF.1 rfl (by rw [hR.2.2.1.2.1 b (Array.getElem?_eq_some_iff.mp h1).1 (fun z => h7 z.1)]; exact h1) h2 h5 rfl rfl hdg kw
      · cases ha
    · cases ha
  · cases ha
/-- stores into arrays of ints, bytes -/
theorem sim_ast {ty : FieldType} (hty : ty = .int ∨ ty = .byte ∨ ty = .long) (hG : mGF B ro D ca s0 X A0) (hF : mFF s0 M p e R s m meth c d n0 z0) (ha : mast ty pc ls st h = some (.inl σ)) (hR : mR B ro D ca s0 n0 z0 nL ls h H locs lsR cells slots) (kk : mKo p l e R s m args below meth c Q B ro D ca s0 n0 z0 nL σ)
    (hrow : ∀ (a n : Nat) (f : Nat → Int32) (i x : Int32) (r : List Value), H[a]? = some (vp_cell (ca ty) (n, .inl f)) → s.isArrayOf (arrV (ca ty) n (fun j => .int (f j))) ty → ¬ (i < 0 ∨ (arrV (ca ty) n (fun j => .int (f j))).slots.size ≤ i.toNatClampNeg) →
      (∀ H1 : Heap, H1[a]? = some (vp_cell (ca ty) (n, .inl (upd f i.toNatClampNeg (vp_nar ty x)))) → H1.size = H.size → (∀ q, q ≠ a → H1[q]? = H[q]?) → W p l e R s m args below meth c H1 (locs ++ [⟨a, i.toNatClampNeg⟩]) cells slots Q (F0 m (pc + 1) lsR r)) → W p l e R s m args below meth c H locs cells slots Q (F0 m pc lsR (.int x :: .int i :: .ref a :: r))) :
    W p l e R s m args below meth c H locs cells slots Q (F0 m pc lsR (st.map (mtr B ro))) := by
  unfold mast at ha
  split at ha
  · rename_i x i a r
    split at ha
    · rename_i hlt
      split at ha
      · rename_i ty' n f hx
        split at ha
        · rename_i hc
          obtain ⟨rfl, hin⟩ := hc
          cases ha
          have he : (mw B ro ca h)[a]? = some (B + a, .inl (ca ty', n, .inl f)) := by rw [mw_get hlt.2, hx]; rfl
          obtain ⟨t0, ht0⟩ := mtys (ca := ca) hty
          show W p l e R s m args below meth c H locs cells slots Q (F0 m pc lsR (.int x :: .int i :: mtr B ro (.ref a) :: r.map (mtr B ro)))
          rw [mtr_lt hlt.1]
          refine hrow (B + a) n f i x _ (hR.2.1 a _ he) (((hG.K hF).2 t0 _ ht0).1 n _) (by rw [arrV_size]; exact hin) (fun H1 e1 z1 o1 => ?_)
          refine kk H1 _ lsR cells slots ⟨hR.1, ?_, hR.2.2.1.put z1 o1 ⟨Nat.le_add_right B a, Nat.add_lt_add_left hlt.2 B⟩, fun hz => ?_, hR.2.2.2.2.1, hR.2.2.2.2.2⟩
          · have := hR.2.1.set mw_D he (e := .inl (ca ty', n, .inl (upd f i.toNatClampNeg (vp_nar ty' x)))) e1 o1
            rw [mw_set (x := .inl (ty', n, .inl (upd f i.toNatClampNeg (vp_nar ty' x)))) (y := .inl (ca ty', n, .inl (upd f i.toNatClampNeg (vp_nar ty' x)))) rfl] at this
            exact this
          · rw [z1]; exact hR.2.2.2.1 hz
        · cases ha
      · cases ha
    · cases ha
  · cases ha
theorem sim_last (hG : mGF B ro D ca s0 X A0) (hF : mFF s0 M p e R s m meth c d n0 z0) (ha : mlast pc ls st h = some (.inl σ)) (hR : mR B ro D ca s0 n0 z0 nL ls h H locs lsR cells slots) (kk : mKo p l e R s m args below meth c Q B ro D ca s0 n0 z0 nL σ)
    (hdg : decode c.code pc = .ok (.lastore, 1)) : W p l e R s m args below meth c H locs cells slots Q (F0 m pc lsR (st.map (mtr B ro))) := by
  unfold mlast at ha
  split at ha
  · rename_i x i a r
    split at ha
    · rename_i hlt
      split at ha
      · rename_i ty' n f hx
        split at ha
        · rename_i hc
          obtain ⟨rfl, hin⟩ := hc
          cases ha
          have he : (mw B ro ca h)[a]? = some (B + a, .inl (ca .long, n, .inr (.inl f))) := by rw [mw_get hlt.2, hx]; rfl
          show W p l e R s m args below meth c H locs cells slots Q (F0 m pc lsR (.long x :: .int i :: mtr B ro (.ref a) :: r.map (mtr B ro)))
          rw [mtr_lt hlt.1]
          refine W.last hF.1 rfl (hR.2.1 a _ he) (((hG.K hF).2 2 _ rfl).1 n (fun j => .long (f j))) (fun q => by cases q) (by show ¬ (i < 0 ∨ (arrV _ _ _).slots.size ≤ _); rw [arrV_size]; exact hin) rfl rfl hdg (fun H1 e1 z1 o1 => ?_)
          refine kk H1 _ lsR cells slots ⟨hR.1, ?_, hR.2.2.1.put z1 o1 ⟨Nat.le_add_right B a, Nat.add_lt_add_left hlt.2 B⟩, fun hz => ?_, hR.2.2.2.2.1, hR.2.2.2.2.2⟩
          · have := hR.2.1.set mw_D he (e := .inl (ca .long, n, .inr (.inl (vp_updL f i.toNatClampNeg x)))) (by
              show H1[B + a]? = some (vp_cell _ _)
              rw [e1, vp_cell_l, vp_cell_l, arrV_store]
              congr 2
              funext q
              by_cases hq : q = i.toNatClampNeg
              · subst hq
                simp [updV, vp_updL]
              · simp [updV, vp_updL, hq]) o1
            rw [mw_set (x := .inl (.long, n, .inr (.inl (vp_updL f i.toNatClampNeg x)))) (y := .inl (ca .long, n, .inr (.inl (vp_updL f i.toNatClampNeg x)))) rfl] at this
            exact this
          · rw [z1]; exact hR.2.2.2.1 hz
        · cases ha
      · cases ha
    · cases ha
  · cases ha
theorem mRO_cap : mCap < mRO := by decide
theorem sim_newo {i ci : Nat} {z1 : Nat} {z2 : Int} (hG : mGF B ro D ca s0 X A0) (hF : mFF s0 M p e R s m meth c d n0 z0) (hk : mlk M.2.1 i = (2, ci, z1, z2)) (ha : mnewo ci pc ls st h = some (.inl σ)) (hR : mR B ro D ca s0 n0 z0 nL ls h H locs lsR cells slots) (kk : mKo p l e R s m args below meth c Q B ro D ca s0 n0 z0 nL σ)
    (hdg : decode c.code pc = .ok (.new i, 3)) : W p l e R s m args below meth c H locs cells slots Q (F0 m pc lsR (st.map (mtr B ro))) := by
  have hc := mchk_all M.2.1 i
  unfold mchk at hc
  rw [hk] at hc
  simp only [Bool.and_eq_true, decide_eq_true_eq] at hc
  obtain ⟨h1, h3⟩ := hc
  have hlink := mword (args := args) hG hF (mem_spec h3)
  unfold mnewo at ha
  split at ha
  · rename_i hcond
    obtain ⟨c1, c2, c3, c4⟩ := hcond
    cases ha
    obtain ⟨q, hq⟩ := mck_all ci (by omega)
    have hini : (Cond.initialized (mCN ci)).before args s = true := by
      simp only [mck, Bool.and_eq_true] at hq
      exact mword hG hF (mem_spec hq.1)
    have hKn := (hG.K hF).1 ci _ (mcz_all ci h1).1
    have hsz := hR.2.2.2.1 c1
    have e1 := hR.2.2.2.2.1
    have e2 := hR.2.2.2.2.2
    have r1 := hF.2.2.2.2.2.2.2.2.1
    have r2 := hF.2.2.2.2.2.2.2.2.2.1
    refine W.newcK hF.1 rfl hF.2.2.2.2.1 hlink (mword hG hF (mcz_inst h1)) hini rfl hdg (by omega) (by omega) hKn.2.1 hsz (fun H1 kC hkC e3 z3 o3 => ?_)
    have k1 := kk H1 locs lsR (cells + 1) (slots + mNF ci) ⟨hR.1, ?_, ⟨Nat.le_trans hR.2.2.1.1 (by omega), fun x h1 h2 => (o3 x (by have := hR.2.2.1.1; omega)).trans (hR.2.2.1.2.1 x h1 (fun z => by have := z.1; have := hG.1; omega)), fun y hy => ⟨(hR.2.2.1.2.2 y hy).1, by have := (hR.2.2.1.2.2 y hy).2; simp only; omega⟩⟩, fun _ => by rw [z3]; simp only; omega, by simp only; omega, by simp only; omega⟩
    · simp only [List.map_cons] at k1
      rw [mtr_lt (by have := mRO_cap; omega)] at k1
      exact k1
    · show va_P D mcl (mw B ro ca ((h.1.1 + 1, 0, h.1.2.2 + mNF ci), mup h.2 h.1.1 (.inr (ci, (List.range (mNF ci)).map (fun k => mdef (mTyT ci k)))))) H1
      rw [← mw_push (y := .inr (ci, ((List.range (mNF ci)).map (fun k => mdef (mTyT ci k))).map (mtr B ro))) rfl]
      refine (hR.2.1.kept (fun k x hx => ?_)).app (fun k x hx => ?_)
      · have hx2 := (hR.2.1 k x hx).lt
        exact o3 x.1 (by omega)
      · have hz : k < 1 := (List.getElem?_eq_some_iff.mp hx).1
        rw [show k = 0 by omega] at hx
        cases hx
        refine ⟨_, (mcz_all ci h1).1, (u_born (mTyT ci) (fun w hw => mword (args := args) hG hF (mcz_in h1 w hw)) (fun w hw => hw) hKn hkC e3 (fun k hk => (mcz_ty h1 k hk).1)).to (fun j hj => ?_)⟩
        have t3 := (mcz_ty h1 j hj).2.2
        show defaultValue (mTyT ci j) = vp_V _ j
        rw [t3]
        simp only [vp_V, List.getD_eq_getElem?_getD, List.getElem?_map]
        rw [show (List.range (mNF ci))[j]? = some j by simp [hj]]
        simp only [Option.map_some, Option.getD_some]
        cases mTyT ci j <;> rfl
  · cases ha
theorem sim_newa {ty : FieldType} {at' : ArrayType} {w : (Nat → Int32) ⊕ (Nat → Int64) ⊕ (Nat → UInt32) ⊕ (Nat → UInt64) ⊕ (Nat → Option Nat)} (hty : newarray.typeOf at' = ty) (htt : ty = .int ∨ ty = .byte ∨ ty = .long) (hw : ∀ cA n, vp_cell cA (n, w) = arrV cA n (fun _ => defaultValue ty)) (hcb : componentBytes ty ≤ 8)
    (harr : Cond.arrayClass ty ∈ lw_tbl)
    (hG : mGF B ro D ca s0 X A0) (hF : mFF s0 M p e R s m meth c d n0 z0) (ha : mnewa ty w pc ls st h = some (.inl σ)) (hR : mR B ro D ca s0 n0 z0 nL ls h H locs lsR cells slots) (kk : mKo p l e R s m args below meth c Q B ro D ca s0 n0 z0 nL σ)
    (hdg : decode c.code pc = .ok (.newarray at', 2)) : W p l e R s m args below meth c H locs cells slots Q (F0 m pc lsR (st.map (mtr B ro))) := by
  subst hty
  unfold mnewa at ha
  split at ha
  · rename_i n r
    split at ha
    · rename_i hcond
      obtain ⟨c1, c2, c3, c4, c5⟩ := hcond
      cases ha
      have hsz := hR.2.2.2.1 c1
      have e1 := hR.2.2.2.2.1
      have e2 := hR.2.2.2.2.2
      have r1 := hF.2.2.2.2.2.2.2.2.1
      have r2 := hF.2.2.2.2.2.2.2.2.2.1
      have hb8 : n.toNatClampNeg * componentBytes (newarray.typeOf at') ≤ 536870912 := by
        have := Nat.mul_le_mul c5 hcb
        omega
      refine va_newaK hF.1 rfl (mword hG hF ⟨harr, rfl⟩) rfl hdg rfl c4 rfl hb8 (by omega) (by omega) hsz (fun H1 cA e3 z3 o3 hA hfc => ?_)
      have hcA : cA = ca (newarray.typeOf at') := by
        obtain ⟨t0, ht0⟩ := mtys (ca := ca) htt
        have := ((hG.K hF).2 t0 _ ht0).2
        rcases htt with q | q | q <;> rw [q] at this hfc ⊢ <;> exact Option.some.inj (hfc.symm.trans this)
      subst hcA
      have k1 := kk H1 locs lsR (cells + 1) (slots + n.toNatClampNeg) ⟨hR.1, ?_, ⟨Nat.le_trans hR.2.2.1.1 (by omega), fun x h1 h2 => (o3 x (by have := hR.2.2.1.1; omega)).trans (hR.2.2.1.2.1 x h1 (fun z => by have := z.1; have := hG.1; omega)), fun y hy => ⟨(hR.2.2.1.2.2 y hy).1, by have := (hR.2.2.1.2.2 y hy).2; simp only; omega⟩⟩, fun _ => by rw [z3]; simp only; omega, by simp only; omega, by simp only; omega⟩
      · simp only [List.map_cons] at k1
        rw [mtr_lt (by have := mRO_cap; omega)] at k1
        exact k1
      · show va_P D mcl (mw B ro ca ((h.1.1 + 1, 0, h.1.2.2 + n.toNatClampNeg), mup h.2 h.1.1 (.inl (newarray.typeOf at', n.toNatClampNeg, w)))) H1
        rw [← mw_push (y := .inl (ca (newarray.typeOf at'), n.toNatClampNeg, w)) rfl]
        refine (hR.2.1.kept (fun k x hx => ?_)).app (fun k x hx => ?_)
        · have hx2 := (hR.2.1 k x hx).lt
          exact o3 x.1 (by omega)
        · have hz : k < 1 := (List.getElem?_eq_some_iff.mp hx).1
          rw [show k = 0 by omega] at hx
          cases hx
          show H1[B + h.1.1]? = some (vp_cell _ _)
          rw [hw]
          exact e3
    · cases ha
  · cases ha
/-- ldc_w of a literal -/
theorem mv_ldcwS {own tx : String} {index q : Nat} {ls : Array Slot} {rest : List Value} (hexec : p.tables.exec = Jvm.exec) (hown : s.vm.findClass own = some m.cls) (hZ : vk_R own index tx q s) (hdg : decode c.code pc = .ok (.ldc_w index, 3))
    (k : W p l e R s m args below meth c H locs cells slots Q (F0 m (pc + 3) ls (.ref q :: rest))) : W p l e R s m args below meth c H locs cells slots Q (F0 m pc ls rest) := by
  intro T hT X
  obtain ⟨t, a1, b1⟩ := k T hT X
  obtain ⟨k, cf, i, a', hk, hcf, hcp, -, hr, hev'⟩ := Cond.stringRef_spec hown hZ.1
  cases hZ.2.symm.trans hev'
  obtain ⟨k', hk', he⟩ := X.warmed.alike.2.2 _ _ hk
  have hr' : k'.resolved[index]? = some (some (.string q)) := by
    rcases X.warmed.entry hk hk' index with h | ⟨h, -⟩
    · rw [h]; exact hr
    · rw [hr] at h; cases h
  refine ⟨t, ?_, b1⟩
  jvm_step X.here [hexec, hdg, ldc_w.wp_string (e := e) (s := T) (f := F0 m pc ls rest) X.here.top hk' (by rw [he]; exact hcf) hcp hr']
  exact a1
theorem sim_ldc {i : Nat} (hG : mGF B ro D ca s0 X A0) (hF : mFF s0 M p e R s m meth c d n0 z0) (ha : mldc M.2.1 i 2 pc ls st h = some (.inl σ)) (hR : mR B ro D ca s0 n0 z0 nL ls h H locs lsR cells slots) (kk : mKo p l e R s m args below meth c Q B ro D ca s0 n0 z0 nL σ)
    (hdg : decode c.code pc = .ok (.ldc i, 2)) : W p l e R s m args below meth c H locs cells slots Q (F0 m pc lsR (st.map (mtr B ro))) := by
  have hc := mchk_all M.2.1 i
  unfold mchk at hc
  unfold mldc at ha
  split at ha
  · rename_i z1 z2 v hk
    rw [hk] at hc
    exact sim_go ha hR kk (fun kw => lv_ldc hF.1 rfl hF.2.2.2.2.1 (mword hG hF (mem_spec hc)) hdg kw)
  · rename_i j z1 z2 hk
    refine sim_go ha hR kk (fun kw => ?_)
    obtain ⟨a, h1, h2⟩ := hG.2.2.2.2.2.2.2.1 _ _ _ _ _ hk
    simp only [List.map_cons] at kw
    rw [mtr_ge (by omega), show mRO + 3 + 2 * j - mRO = 3 + 2 * j by omega, h1] at kw
    exact va_ldcS hF.1 rfl hF.2.2.2.2.1 (vk_R.warm hF.2.2.2.2.2.2.1 h2) hdg kw
  · cases ha
theorem sim_ldcw {i : Nat} (hG : mGF B ro D ca s0 X A0) (hF : mFF s0 M p e R s m meth c d n0 z0) (ha : mldc M.2.1 i 3 pc ls st h = some (.inl σ)) (hR : mR B ro D ca s0 n0 z0 nL ls h H locs lsR cells slots) (kk : mKo p l e R s m args below meth c Q B ro D ca s0 n0 z0 nL σ)
    (hdg : decode c.code pc = .ok (.ldc_w i, 3)) : W p l e R s m args below meth c H locs cells slots Q (F0 m pc lsR (st.map (mtr B ro))) := by
  have hc := mchk_all M.2.1 i
  unfold mchk at hc
  unfold mldc at ha
  split at ha
  · rename_i z1 z2 v hk
    rw [hk] at hc
    exact sim_go ha hR kk (fun kw => lv_ldcw hF.1 rfl hF.2.2.2.2.1 (mword hG hF (mem_spec hc)) hdg kw)
  · rename_i j z1 z2 hk
    refine sim_go ha hR kk (fun kw => ?_)
    obtain ⟨a, h1, h2⟩ := hG.2.2.2.2.2.2.2.1 _ _ _ _ _ hk
    simp only [List.map_cons] at kw
    rw [mtr_ge (by omega), show mRO + 3 + 2 * j - mRO = 3 + 2 * j by omega, h1] at kw
    exact mv_ldcwS hF.1 hF.2.2.2.2.1 (vk_R.warm hF.2.2.2.2.2.2.1 h2) hdg kw
  · cases ha
/-- getstatic of what s0 holds -/
theorem mv_gets {C n dd own : String} {v : Value} {index : Nat} {ls : Array Slot} {rest : List Value} (hF : mFF s0 M p e R s m meth c d n0 z0) (hZ : va_Z C n dd v (fun q => B ≤ q) s0 s0.heap) {n9 : Nat} (hS : va_S (mAr B n9) s0.heap H locs) (hown : s.vm.findClass own = some m.cls) (hlink : (Cond.fieldLink own index C n dd).before args s = true) (hdg : decode c.code pc = .ok (.getstatic index, 3))
    (kk : W p l e R s m args below meth c H locs cells slots Q (F0 m (pc + 3) ls (v :: rest))) : W p l e R s m args below meth c H locs cells slots Q (F0 m pc ls rest) := by
  obtain ⟨cf, kf, fi, f, a, cell, h1, h2, h3, h4, h5, h6, h7, h8⟩ := va_Z.moved hF.2.2.2.2.2.2.1.alike hZ
  exact W.gets hF.1 rfl hown hlink h1 h2 h3 h4 (by rw [hS.2.1 a (Array.getElem?_eq_some_iff.mp h5).1 (fun z => h8 z.1)]; exact h5) (fun e => by rw [e] at h6; cases h6) h7 rfl hdg kk
theorem sim_gets {i : Nat} (hG : mGF B ro D ca s0 X A0) (hF : mFF s0 M p e R s m meth c d n0 z0) (ha : mgets M.2.1 i pc ls st h = some (.inl σ)) (hR : mR B ro D ca s0 n0 z0 nL ls h H locs lsR cells slots) (kk : mKo p l e R s m args below meth c Q B ro D ca s0 n0 z0 nL σ)
    (hdg : decode c.code pc = .ok (.getstatic i, 3)) : W p l e R s m args below meth c H locs cells slots Q (F0 m pc lsR (st.map (mtr B ro))) := by
  have hc := mchk_all M.2.1 i
  unfold mchk at hc
  unfold mgets at ha
  split at ha
  · rename_i z1 z2 hk
    rw [hk] at hc
    refine sim_go ha hR kk (fun kw => ?_)
    obtain ⟨a, h1, h2⟩ := hG.2.2.2.2.2.2.2.2.1
    simp only [List.map_cons] at kw
    rw [mtr_ge (by omega), show mRO + 1 - mRO = 1 by omega, h1] at kw
    exact mv_gets hF h2 hR.2.2.1 hF.2.2.2.2.1 (mword hG hF (mem_spec hc)) hdg kw
  · rename_i z1 z2 hk
    rw [hk] at hc
    exact sim_go ha hR kk (fun kw => mv_gets hF hG.2.2.2.2.2.2.2.2.2.1 hR.2.2.1 hF.2.2.2.2.1 (mword hG hF (mem_spec hc)) hdg kw)
  · rename_i z1 z2 hk
    rw [hk] at hc
    refine sim_go ha hR kk (fun kw => ?_)
    simp only [List.map_cons] at kw
    rw [mtr_ge (by omega), show mRO + 2 - mRO = 2 by omega] at kw
    exact mv_gets hF hG.2.2.2.2.2.2.2.2.2.2.1 hR.2.2.1 hF.2.2.2.2.1 (mword hG hF (mem_spec hc)) hdg kw
  · cases ha
theorem mnat : Cond.native arraycopyName ∈ lw_tbl ∧ Cond.static arraycopyName ∈ lw_tbl ∧ Cond.initialized "java/lang/System" ∈ lw_tbl := ⟨memN_spec (q := (3, 23)) (by decide +kernel), memN_spec (q := (3, 22)) (by decide +kernel), memN_spec (q := (1, 20)) (by decide +kernel)⟩
theorem sim_copy {i : Nat} {z1 z2 : Nat} {z3 : Int} (hG : mGF B ro D ca s0 X A0) (hF : mFF s0 M p e R s m meth c d n0 z0) (hk : mlk M.2.1 i = (11, z1, z2, z3)) (ha : mcopy pc ls st h = some (.inl σ)) (hR : mR B ro D ca s0 n0 z0 M.2.2.1 ls h H locs lsR cells slots) (hcp : mcap h) (kk : mKo p l e R s m args below meth c Q B ro D ca s0 n0 z0 M.2.2.1 σ)
    (hdg : decode c.code pc = .ok (.invokestatic i, 3)) : W p l e R s m args below meth c H locs cells slots Q (F0 m pc lsR (st.map (mtr B ro))) := by
  have hc := mchk_all M.2.1 i
  unfold mchk at hc
  rw [hk] at hc
  unfold mcopy at ha
  split at ha
  · rename_i n dp a1 sp a0 r
    split at ha
    · rename_i hlt
      obtain ⟨⟨g0, g0'⟩, ⟨g1, g1'⟩, hsum⟩ := hlt
      split at ha
      · rename_i nn0 f nn1 g hx0 hx1
        split at ha
        · rename_i hcond
          obtain ⟨k1, k2, k3, k4, k5⟩ := hcond
          cases ha
          have nn : ∀ z : Int32, ¬ z < 0 → z.toInt = (z.toNatClampNeg : Int) := by
            intro z hz
            have hz0 : (0 : Int) ≤ z.toInt := by
              have := Int32.not_lt.mp hz
              simpa using Int32.le_iff_toInt_le.mp this
            show z.toInt = ((z.toInt.toNat : Nat) : Int)
            omega
          have he0 : (mw B ro ca h)[a0]? = some (B + a0, .inl (ca .byte, nn0, .inl f)) := by rw [mw_get g0', hx0]; rfl
          have he1 : (mw B ro ca h)[a1]? = some (B + a1, .inl (ca .byte, nn1, .inl g)) := by rw [mw_get g1', hx1]; rfl
          have hc0 : H[B + a0]? = some (vp_cell (ca .byte) (nn0, .inl f)) := hR.2.1 a0 _ he0
          have hc1 : H[B + a1]? = some (vp_cell (ca .byte) (nn1, .inl g)) := hR.2.1 a1 _ he1
          obtain ⟨-, q0, hq0, cm0, hkk0⟩ := ((hG.K hF).2 1 _ rfl).1 nn0 (fun j => .int (f j))
          obtain ⟨-, q1, hq1, cm1, hkk1⟩ := ((hG.K hF).2 1 _ rfl).1 nn1 (fun j => .int (g j))
          have r3 := hF.2.2.2.2.2.2.2.2.2.2.1
          have r4 := hF.2.2.2.2.2.2.2.2.2.2.2.1
          show W p l e R s m args below meth c H locs cells slots Q (F0 m pc lsR (.int n :: .int dp :: mtr B ro (.ref a1) :: .int sp :: mtr B ro (.ref a0) :: r.map (mtr B ro)))
          rw [mtr_lt g0, mtr_lt g1]
          intro T hT XX
          obtain ⟨vm', X', step⟩ := XX.arraycopy hF.1 hF.2.2.2.2.1 (mword hG hF (mem_spec hc)) (mword hG hF ⟨mnat.1, rfl⟩) (mword hG hF ⟨mnat.2.1, rfl⟩) (mword hG hF ⟨mnat.2.2, rfl⟩) (src := B + a0) (dst := B + a1) (cs := vp_cell (ca .byte) (nn0, .inl f)) (cd := vp_cell (ca .byte) (nn1, .inl g)) (srcPos := sp) (destPos := dp) (n := n) (by rw [hT]; exact hc0) (by rw [hT]; exact hc1)
            (fun _ h => by cases h) (fun _ h => by cases h) (fun h => by cases h) (fun h => by cases h) hq0 hq1 hkk0 hkk1 (by simp [refKind]) k1 k2 k3
            (by rw [nn sp k1, nn n k3]; show ¬ _ > ((arrV (ca .byte) nn0 (fun j => .int (f j))).slots.size : Int); rw [arrV_size]; omega)
            (by rw [nn dp k2, nn n k3]; show ¬ _ > ((arrV (ca .byte) nn1 (fun j => .int (g j))).slots.size : Int); rw [arrV_size]; omega)
            (fun vm₁ _ i hi => by
              have e : (vp_cell (ca .byte) (nn0, .inl f)).slots.getD (sp.toNatClampNeg + i) .null = .int (f (sp.toNatClampNeg + i)) := by
                show (arrV (ca .byte) nn0 (fun j => .int (f j))).slots.getD _ _ = _
                rw [Array.getD_eq_getD_getElem?, arrV_read _ _ (by omega)]
                rfl
              refine ⟨?_, ?_⟩
              · rw [e]
                exact hcp.2.2 a0 nn0 f hx0 _
              · rw [e]
                exact trivial)
            (g := F0 m pc lsR (.int n :: .int dp :: .ref (B + a1) :: .int sp :: .ref (B + a0) :: r.map (mtr B ro))) rfl (by show lsR.size = _; rw [hF.2.2.2.1]; exact hR.1.2.1) (rest := r.map (mtr B ro)) rfl hdg (by omega) (by
              show 2 * 0 + ((r.map (mtr B ro)).map fun v => v.category).sum + _ ≤ R.locals
              rw [mtr_sum hG.cat0]
              have : nativeFrameWords "java/lang/System" "arraycopy" 5 + 11 ≤ 300 := by decide +kernel
              omega)
          have e1 : copied (vp_cell (ca .byte) (nn0, .inl f)) (vp_cell (ca .byte) (nn1, .inl g)) sp dp n = vp_cell (ca .byte) (nn1, .inl (va_cpy f g sp.toNatClampNeg dp.toNatClampNeg n.toNatClampNeg)) := va_copied (fun z => .int z) _ _ f g k4
          rw [e1] at X' step
          have hl : B + a1 < H.size := (Array.getElem?_eq_some_iff.mp hc1).1
          have hheap : ((T.setVm vm').setCell (B + a1) (vp_cell (ca .byte) (nn1, .inl (va_cpy f g sp.toNatClampNeg dp.toNatClampNeg n.toNatClampNeg)))).heap = H.setIfInBounds (B + a1) (vp_cell (ca .byte) (nn1, .inl (va_cpy f g sp.toNatClampNeg dp.toNatClampNeg n.toNatClampNeg))) := by rw [← hT]; rfl
          have oq : ∀ q : Nat, q ≠ B + a1 → (H.setIfInBounds (B + a1) (vp_cell (ca .byte) (nn1, .inl (va_cpy f g sp.toNatClampNeg dp.toNatClampNeg n.toNatClampNeg))))[q]? = H[q]? := fun q hq => by simp [Array.getElem?_setIfInBounds, Ne.symm hq]
          have hset := hR.2.1.set mw_D he1 (e := .inl (ca .byte, nn1, .inl (va_cpy f g sp.toNatClampNeg dp.toNatClampNeg n.toNatClampNeg))) (show (H.setIfInBounds (B + a1) _)[B + a1]? = some _ by simp [Array.getElem?_setIfInBounds, hl]) oq
          rw [mw_set (x := .inl (.byte, nn1, .inl (va_cpy f g sp.toNatClampNeg dp.toNatClampNeg n.toNatClampNeg))) (y := .inl (ca .byte, nn1, .inl (va_cpy f g sp.toNatClampNeg dp.toNatClampNeg n.toNatClampNeg))) rfl] at hset
          obtain ⟨t, a1', b1'⟩ := kk _ _ lsR cells slots ⟨hR.1, hset, ⟨by simp; exact hR.2.2.1.1, fun q u1 u2 => by
              rw [oq q (fun z => u2 (by rw [z]; exact ⟨Nat.le_add_right B a1, Nat.add_lt_add_left g1' B⟩))]
              exact hR.2.2.1.2.1 q u1 u2, fun y hy => by
              rcases List.mem_append.mp hy with h | h
              · exact hR.2.2.1.2.2 y h
              · obtain ⟨z, -, hz⟩ := List.mem_map.mp h
                rw [← hz]
                exact ⟨Nat.le_add_right B a1, Nat.add_lt_add_left g1' B⟩⟩, fun hz => by simp; exact hR.2.2.2.1 hz, hR.2.2.2.2.1, hR.2.2.2.2.2⟩ _ hheap X'
          exact ⟨t, step t a1', b1'⟩
        · cases ha
      · cases ha
    · cases ha
  · cases ha
end
