/-! one step of the small machine that is no call and no end -/
theorem mlen {i : Instr} {len : Nat} (h : misw i = true ∨ len = milen i) (hf : misw i = false) : len = milen i := h.resolve_left (fun q => by rw [hf] at q; cases q)
section
variable {p : Program} {l : Launch} {e : Env} {R : Room} {s : State} {m : MethodId} {args : Array Value} {below : List Frame} {meth : Method} {c : Code} {H : Heap} {locs : List Loc} {cells slots : Nat} {Q : State → Prop}
variable {B : Nat} {ro : Nat → Value} {D : va_G} {ca : FieldType → ClassId} {s0 : State} {X : mX} {A0 : Array Value} {n0 z0 nL d : Nat} {lsR : Array Slot} {pc : Nat} {ls : mL} {st : List Value} {h : mH} {σ : mS} {M : mM}
theorem mGF.cat (hG : mGF B ro D ca s0 X A0) : ∀ i, (ro i).category = 1 := by
  intro i
  rcases hG.2.2.2.1 i with q | ⟨a, q⟩ <;> rw [q] <;> rfl
theorem mArC (ty : FieldType) (h : ty = .int ∨ ty = .byte ∨ ty = .long) : Cond.arrayClass ty ∈ lw_tbl := by
  refine List.mem_append_right _ ?_
  rcases h with rfl | rfl | rfl <;> decide +kernel
set_option maxHeartbeats 4000000 in
theorem sim_step {i : Instr} (hG : mGF B ro D ca s0 X A0) (hF : mFF s0 M p e R s m meth c d n0 z0) (hi : M.1 pc = some i) (ha : mact X M i pc ls st h = some (.inl σ)) (hR : mR B ro D ca s0 n0 z0 M.2.2.1 ls h H locs lsR cells slots) (hcp : mcap h) (kk : mKo p l e R s m args below meth c Q B ro D ca s0 n0 z0 M.2.2.1 σ) :
    W p l e R s m args below meth c H locs cells slots Q (F0 m pc lsR (st.map (mtr B ro))) := by
  obtain ⟨len, hd, hsl⟩ := hF.2.2.2.2.2.2.2.1 pc i hi
  have hx := hF.1
  have hro := hG.cat
  have hro2 := hG.2.2.2.1
  cases i
  case iconst n =>
    obtain rfl := mlen hsl rfl
    exact sim_go ha hR kk (fun k => lv_iconst hx rfl hd rfl k)
  case bipush n =>
    obtain rfl := mlen hsl rfl
    exact sim_go ha hR kk (fun k => lv_bipush hx rfl hd rfl k)
  case sipush n =>
    obtain rfl := mlen hsl rfl
    exact sim_go ha hR kk (fun k => lv_sipush hx rfl hd rfl k)
  case lconst n =>
    obtain rfl := mlen hsl rfl
    exact sim_go ha hR kk (fun k => lv_lconst hx rfl hd rfl k)
  case ldc n =>
    obtain rfl := mlen hsl rfl
    exact sim_ldc hG hF ha hR kk hd
  case ldc_w n =>
    obtain rfl := mlen hsl rfl
    exact sim_ldcw hG hF ha hR kk hd
  case ldc2_w n =>
    obtain rfl := mlen hsl rfl
    simp only [mact] at ha
    split at ha
    · rename_i z1 z2 v hk
      have hc := mchk_all M.2.1 n
      unfold mchk at hc
      rw [hk] at hc
      exact sim_go ha hR kk (fun k => lv_ldc2 hx rfl hF.2.2.2.2.1 (mword hG hF (mem_spec hc)) hd k)
    · cases ha
  case iload j =>
    obtain rfl := mlen hsl rfl
    exact sim_ildI ha hR kk (fun x r hl k => lv_iload hx rfl hd hl k)
  case iload_n j =>
    obtain rfl := mlen hsl rfl
    exact sim_ildI ha hR kk (fun x r hl k => lv_iload_n hx rfl hd rfl hl k)
  case lload j =>
    obtain rfl := mlen hsl rfl
    exact sim_ildL ha hR kk (fun x r hl k => lv_lload hx rfl hd hl k)
  case lload_n j =>
    obtain rfl := mlen hsl rfl
    exact sim_ildL ha hR kk (fun x r hl k => lv_lload_n hx rfl hd rfl hl k)
  case aload j =>
    obtain rfl := mlen hsl rfl
    exact sim_ildA hro2 ha hR kk (fun x r hl k => lv_aload hx rfl hd hl k) (fun r hl k => lv_aloadN hx rfl hd hl k)
  case aload_n j =>
    obtain rfl := mlen hsl rfl
    exact sim_ildA hro2 ha hR kk (fun x r hl k => lv_aload_n hx rfl hd rfl hl k) (fun r hl k => lv_aload_nN hx rfl hd rfl hl k)
  case istore j =>
    obtain rfl := mlen hsl rfl
    exact sim_istI hro ha hR kk (fun x r hj k => lv_istore hx rfl hd hR.1.2 hj rfl k)
  case istore_n j =>
    obtain rfl := mlen hsl rfl
    exact sim_istI hro ha hR kk (fun x r hj k => lv_istore_n hx rfl hd rfl hR.1.2 hj rfl k)
  case lstore j =>
    obtain rfl := mlen hsl rfl
    exact sim_istL hro ha hR kk (fun x r hj k => lv_lstore hx rfl hd hR.1.2 hj rfl k)
  case lstore_n j =>
    obtain rfl := mlen hsl rfl
    exact sim_istL hro ha hR kk (fun x r hj k => lv_lstore_n hx rfl hd rfl hR.1.2 hj rfl k)
  case astore j =>
    obtain rfl := mlen hsl rfl
    exact sim_istA hro hro2 ha hR kk (fun x r hj k => lv_astore hx rfl hd hR.1.2 hj rfl k) (fun r hj k => lv_astoreN hx rfl hd hR.1.2 hj rfl k)
  case astore_n j =>
    obtain rfl := mlen hsl rfl
    exact sim_istA hro hro2 ha hR kk (fun x r hj k => lv_astore_n hx rfl hd rfl hR.1.2 hj rfl k) (fun r hj k => lv_astore_nN hx rfl hd rfl hR.1.2 hj rfl k)
  case iinc j n =>
    obtain rfl := mlen hsl rfl
    simp only [mact] at ha
    split at ha
    · rename_i x hx1
      split at ha
      · rename_i ls' hs
        cases ha
        have hj : j < M.2.2.1 := by rw [← hR.1.1]; exact mlg_lt hx1
        obtain ⟨k, hk⟩ := List.getElem?_of_mem (mlv_mem.mpr ⟨_, hx1, rfl⟩ : (j, mtr B ro (.int x)) ∈ mlv (mtr B ro) ls)
        exact lv_iinc hx rfl hd hR.1.2 hk rfl hj rfl (fun lsR' h' => kk H locs lsR' cells slots ⟨mLH.st1 (mtr_cat hro) hR.1.1 hs h', hR.2⟩)
      · cases ha
    · cases ha
  case iadd =>
    obtain rfl := mlen hsl rfl
    exact sim_m2i ha hR kk (fun x y r k => lv_iadd hx rfl hd k)
  case isub =>
    obtain rfl := mlen hsl rfl
    exact sim_m2i ha hR kk (fun x y r k => lv_isub hx rfl hd k)
  case imul =>
    obtain rfl := mlen hsl rfl
    exact sim_m2i ha hR kk (fun x y r k => lv_imul hx rfl hd k)
  case iand =>
    obtain rfl := mlen hsl rfl
    exact sim_m2i ha hR kk (fun x y r k => lv_iand hx rfl hd k)
  case ior =>
    obtain rfl := mlen hsl rfl
    exact sim_m2i ha hR kk (fun x y r k => lv_ior hx rfl hd k)
  case ixor =>
    obtain rfl := mlen hsl rfl
    exact sim_m2i ha hR kk (fun x y r k => lv_ixor hx rfl hd k)
  case ishl =>
    obtain rfl := mlen hsl rfl
    exact sim_m2i ha hR kk (fun x y r k => lv_ishl hx rfl hd k)
  case ishr =>
    obtain rfl := mlen hsl rfl
    exact sim_m2i ha hR kk (fun x y r k => lv_ishr hx rfl hd k)
  case iushr =>
    obtain rfl := mlen hsl rfl
    exact sim_m2i ha hR kk (fun x y r k => lv_iushr hx rfl hd rfl k)
  case ladd =>
    obtain rfl := mlen hsl rfl
    exact sim_m2l ha hR kk (fun x y r k => lv_ladd hx rfl hd k)
  case lsub =>
    obtain rfl := mlen hsl rfl
    exact sim_m2l ha hR kk (fun x y r k => lv_lsub hx rfl hd k)
  case lmul =>
    obtain rfl := mlen hsl rfl
    exact sim_m2l ha hR kk (fun x y r k => lv_lmul hx rfl hd k)
  case land =>
    obtain rfl := mlen hsl rfl
    exact sim_m2l ha hR kk (fun x y r k => lv_land hx rfl hd k)
  case lor =>
    obtain rfl := mlen hsl rfl
    exact sim_m2l ha hR kk (fun x y r k => lv_lor hx rfl hd k)
  case lxor =>
    obtain rfl := mlen hsl rfl
    exact sim_m2l ha hR kk (fun x y r k => lv_lxor hx rfl hd k)
  case lcmp =>
    obtain rfl := mlen hsl rfl
    exact sim_m2l ha hR kk (fun x y r k => W.lcmp hx rfl hd k)
  case idiv =>
    obtain rfl := mlen hsl rfl
    exact sim_mdvi ha hR kk (fun x y r hy k => lv_idiv hx rfl hd hy k)
  case irem =>
    obtain rfl := mlen hsl rfl
    exact sim_mdvi ha hR kk (fun x y r hy k => lv_irem hx rfl hd hy k)
  case ldiv =>
    obtain rfl := mlen hsl rfl
    exact sim_mdvl ha hR kk (fun x y r hy k => lv_ldiv hx rfl hd hy k)
  case lrem =>
    obtain rfl := mlen hsl rfl
    exact sim_mdvl ha hR kk (fun x y r hy k => lv_lrem hx rfl hd hy k)
  case ineg =>
    obtain rfl := mlen hsl rfl
    exact sim_m1i ha hR kk (fun x r k => lv_ineg hx rfl hd k)
  case lneg =>
    obtain rfl := mlen hsl rfl
    exact sim_m1l ha hR kk (fun x r k => lv_lneg hx rfl hd k)
  case lshl =>
    obtain rfl := mlen hsl rfl
    exact sim_m2j ha hR kk (fun x y r k => lv_lshl hx rfl hd rfl k)
  case lshr =>
    obtain rfl := mlen hsl rfl
    exact sim_m2j ha hR kk (fun x y r k => lv_lshr hx rfl hd rfl k)
  case lushr =>
    obtain rfl := mlen hsl rfl
    exact sim_m2j ha hR kk (fun x y r k => lv_lushr hx rfl hd rfl k)
  case i2l =>
    obtain rfl := mlen hsl rfl
    exact sim_m1i ha hR kk (fun x r k => lv_i2l hx rfl hd rfl k)
  case i2b =>
    obtain rfl := mlen hsl rfl
    exact sim_m1i ha hR kk (fun x r k => lv_i2b hx rfl hd rfl k)
  case i2s =>
    obtain rfl := mlen hsl rfl
    exact sim_m1i ha hR kk (fun x r k => lv_i2s hx rfl hd rfl k)
  case i2c =>
    obtain rfl := mlen hsl rfl
    exact sim_m1i ha hR kk (fun x r k => lv_i2c hx rfl hd rfl k)
  case l2i =>
    obtain rfl := mlen hsl rfl
    exact sim_m1l ha hR kk (fun x r k => lv_l2i hx rfl hd rfl k)
  case dup =>
    obtain rfl := mlen hsl rfl
    simp only [mact] at ha
    split at ha
    · split at ha
      · rename_i hv
        exact sim_go ha hR kk (fun k => lv_dup hx rfl hd (by rw [mtr_cat hro]; exact hv) k)
      · cases ha
    · cases ha
  case pop =>
    obtain rfl := mlen hsl rfl
    simp only [mact] at ha
    split at ha
    · split at ha
      · rename_i hv
        exact sim_go ha hR kk (fun k => lv_pop hx rfl hd (by rw [mtr_cat hro]; exact hv) k)
      · cases ha
    · cases ha
  case dup_x1 =>
    obtain rfl := mlen hsl rfl
    simp only [mact] at ha
    split at ha
    · split at ha
      · rename_i hv
        exact sim_go ha hR kk (fun k => lv_dup_x1 hx rfl hd (by rw [mtr_cat hro]; exact hv.1) (by rw [mtr_cat hro]; exact hv.2) k)
      · cases ha
    · cases ha
  case dup2 =>
    obtain rfl := mlen hsl rfl
    simp only [mact] at ha
    split at ha
    · split at ha
      · rename_i hv
        exact sim_go ha hR kk (fun k => lv_dup2_11 hx rfl hd (by rw [mtr_cat hro]; exact hv.1) (by rw [mtr_cat hro]; exact hv.2) k)
      · cases ha
    · cases ha
  case ifCond cc off =>
    obtain rfl := mlen hsl rfl
    cases cc
    case eq => exact sim_mif1 ha hR kk (fun x t r ht k1 k2 => lv_if_eq hx rfl hd ht (fun q => k1 (decide_eq_true q)) (fun q => k2 (decide_eq_false q)))
    case lt => exact sim_mif1 ha hR kk (fun x t r ht k1 k2 => lv_if_lt hx rfl hd ht (fun q => k1 (decide_eq_true q)) (fun q => k2 (decide_eq_false q)))
    case ge => exact sim_mif1 ha hR kk (fun x t r ht k1 k2 => lv_if_ge hx rfl hd ht (fun q => k1 (decide_eq_true q)) (fun q => k2 (decide_eq_false q)))
    case gt => exact sim_mif1 ha hR kk (fun x t r ht k1 k2 => lv_if_gt hx rfl hd ht (fun q => k1 (decide_eq_true q)) (fun q => k2 (decide_eq_false q)))
    case le => exact sim_mif1 ha hR kk (fun x t r ht k1 k2 => lv_if_le hx rfl hd ht (fun q => k1 (decide_eq_true q)) (fun q => k2 (decide_eq_false q)))
    case ne => exact sim_mif1 ha hR kk (fun x t r ht k1 k2 => lv_if_ne hx rfl hd ht (fun q => k1 (decide_eq_true q)) (fun q => k2 (decide_eq_false (fun z => z q))))
  case if_icmp cc off =>
    obtain rfl := mlen hsl rfl
    cases cc
    case eq => exact sim_mif2 ha hR kk (fun x y t r ht k1 k2 => lv_icmp_eq hx rfl hd ht (fun q => k1 (decide_eq_true q)) (fun q => k2 (decide_eq_false q)))
    case lt => exact sim_mif2 ha hR kk (fun x y t r ht k1 k2 => lv_icmp_lt hx rfl hd ht (fun q => k1 (decide_eq_true q)) (fun q => k2 (decide_eq_false q)))
    case ge => exact sim_mif2 ha hR kk (fun x y t r ht k1 k2 => lv_icmp_ge hx rfl hd ht (fun q => k1 (decide_eq_true q)) (fun q => k2 (decide_eq_false q)))
    case gt => exact sim_mif2 ha hR kk (fun x y t r ht k1 k2 => lv_icmp_gt hx rfl hd ht (fun q => k1 (decide_eq_true q)) (fun q => k2 (decide_eq_false q)))
    case le => exact sim_mif2 ha hR kk (fun x y t r ht k1 k2 => lv_icmp_le hx rfl hd ht (fun q => k1 (decide_eq_true q)) (fun q => k2 (decide_eq_false q)))
    case ne => exact sim_mif2 ha hR kk (fun x y t r ht k1 k2 => lv_icmp_ne hx rfl hd ht (fun q => k1 (decide_eq_true q)) (fun q => k2 (decide_eq_false (fun z => z q))))
  case goto off =>
    obtain rfl := mlen hsl rfl
    exact sim_mjmp ha hR kk (fun t ht k => lv_goto hx rfl hd ht k)
  case tableswitch dflt lo hi offs =>
    simp only [mact] at ha
    split at ha
    · split at ha
      · rename_i hout
        exact sim_mjmp ha hR kk (fun t ht k => lv_tableOut hx rfl hd hout ht k)
      · rename_i hin
        split at ha
        · rename_i off ho
          exact sim_mjmp ha hR kk (fun t ht k => lv_tableIn hx rfl hd (fun q => hin (Or.inl q)) (fun q => hin (Or.inr q)) ho ht k)
        · cases ha
    · cases ha
  case lookupswitch dflt ps =>
    simp only [mact] at ha
    split at ha
    · split at ha
      · rename_i hps
        exact sim_mjmp ha hR kk (fun t ht k => lv_lookup hx rfl hd hps rfl ht k)
      · cases ha
    · cases ha
  case getfield j =>
    obtain rfl := mlen hsl rfl
    simp only [mact] at ha
    split at ha
    · rename_i ci k z hk
      exact sim_getf hG hF hk ha hR kk hd
    · cases ha
  case putfield j =>
    obtain rfl := mlen hsl rfl
    simp only [mact] at ha
    split at ha
    · rename_i ci k z hk
      exact sim_putf hG hF hk ha hR kk hd
    · cases ha
  case getstatic j =>
    obtain rfl := mlen hsl rfl
    exact sim_gets hG hF ha hR kk hd
  case new j =>
    obtain rfl := mlen hsl rfl
    simp only [mact] at ha
    split at ha
    · rename_i ci z1 z2 hk
      exact sim_newo hG hF hk ha hR kk hd
    · unfold mthrow at ha
      split at ha
      · split at ha
        · cases ha
        · cases ha
      · cases ha
    · cases ha
  case newarray t =>
    obtain rfl := mlen hsl rfl
    cases t
    case int => exact sim_newa (at' := .int) (w := .inl fun _ => 0) rfl (Or.inl rfl) (fun _ _ => rfl) (by decide) (mArC _ (Or.inl rfl)) hG hF ha hR kk hd
    case byte => exact sim_newa (at' := .byte) (w := .inl fun _ => 0) rfl (Or.inr (Or.inl rfl)) (fun _ _ => rfl) (by decide) (mArC _ (Or.inr (Or.inl rfl))) hG hF ha hR kk hd
    case long => exact sim_newa (at' := .long) (w := .inr (.inl fun _ => 0)) rfl (Or.inr (Or.inr rfl)) (fun _ _ => rfl) (by decide) (mArC _ (Or.inr (Or.inr rfl))) hG hF ha hR kk hd
    all_goals exact nomatch (show (none : Option mA) = some (.inl σ) from ha)
  case iaload =>
    obtain rfl := mlen hsl rfl
    exact sim_ald (Or.inl rfl) hG hF ha hR kk (fun a n t0 f i r he ht hin k => va_iald hx rfl (hG.K hF) hR.2.1 a t0 he ht hin hd k) (fun a cell i v r h1 h2 h3 h4 h5 k => W.iald (v := .int v) hx rfl h1 h2 h3 h4 h5 rfl rfl hd k)
  case baload =>
    obtain rfl := mlen hsl rfl
    exact sim_ald (Or.inr (Or.inl rfl)) hG hF ha hR kk (fun a n t0 f i r he ht hin k => va_bald hx rfl (hG.K hF) hR.2.1 a t0 he ht hin hd k) (fun a cell i v r h1 h2 h3 h4 h5 k => W.bald (v := .int v) hx rfl h1 h2 h3 h4 h5 rfl rfl hd k)
  case laload =>
    obtain rfl := mlen hsl rfl
    exact sim_lald hG hF ha hR kk hd
  case iastore =>
    obtain rfl := mlen hsl rfl
    refine sim_ast (Or.inl rfl) hG hF ha hR kk (fun a n f i x r h1 h2 h3 k => W.iast hx rfl h1 h2 (fun q => by cases q) h3 rfl rfl hd (fun H1 e1 z1 o1 => k H1 ?_ z1 o1))
    rw [e1, vp_cell_i, vp_cell_i, arrV_store]
    congr 2
    funext q
    by_cases hq : q = i.toNatClampNeg
    · subst hq
      simp [updV, upd, vp_nar, narrow]
    · simp [updV, upd, hq]
  case bastore =>
    obtain rfl := mlen hsl rfl
    refine sim_ast (Or.inr (Or.inl rfl)) hG hF ha hR kk (fun a n f i x r h1 h2 h3 k => W.bast hx rfl h1 h2 (fun q => by cases q) h3 rfl rfl hd (fun H1 e1 z1 o1 => k H1 ?_ z1 o1))
    rw [e1, vp_cell_i, vp_cell_i, arrV_store]
    congr 2
    funext q
    by_cases hq : q = i.toNatClampNeg
    · subst hq
      simp [updV, upd, vp_nar]
      try rfl
    · simp [updV, upd, hq]
  case lastore =>
    obtain rfl := mlen hsl rfl
    exact sim_last hG hF ha hR kk hd
  case arraylength =>
    obtain rfl := mlen hsl rfl
    exact sim_alen hG hF ha hR kk hd
  case invokestatic j =>
    obtain rfl := mlen hsl rfl
    simp only [mact] at ha
    split at ha
    · simp only [mcallS, mcall] at ha
      repeat' split at ha
      all_goals cases ha
    · rename_i z1 z2 z3 hk
      exact sim_copy hG hF hk ha hR hcp kk hd
    · cases ha
  case invokevirtual j =>
    obtain rfl := mlen hsl rfl
    simp only [mact] at ha
    split at ha
    · unfold mcallV at ha
      split at ha
      · split at ha
        · split at ha
          · unfold mcall at ha
            split at ha <;> cases ha
          · cases ha
        · cases ha
      · cases ha
    · cases ha
  case invokespecial j =>
    obtain rfl := mlen hsl rfl
    have key : ∀ k n, mcallI k n st ≠ some (.inl σ) := by
      intro k n hq
      unfold mcallI at hq
      split at hq
      · split at hq
        · unfold mcall at hq
          split at hq <;> cases hq
        · cases hq
      · cases hq
    simp only [mact] at ha
    split at ha
    · exact absurd ha (key _ _)
    · exact absurd ha (key _ _)
    · rename_i z1 z2 z3 hk
      split at ha
      · rename_i a r
        split at ha
        · rename_i hc
          refine sim_go ha hR kk (fun k => ?_)
          have hc2 := mchk_all M.2.1 j
          unfold mchk at hc2
          rw [hk] at hc2
          show W p l e R s m args below meth c H locs cells slots Q (F0 m pc lsR (mtr B ro (.ref a) :: r.map (mtr B ro)))
          rw [mtr_lt hc.1]
          have hoi : Cond.instanceMethod objectInit ∈ lw_tbl := List.mem_append_right _ (List.mem_of_getElem? (i := 37) (by decide +kernel))
          have hoc : Cond.code objectInit ⟨#[0xb1]⟩ 1 none ∈ lw_tbl := List.mem_append_right _ (List.mem_of_getElem? (i := 38) (by decide +kernel))
          refine W.objInit hx rfl hF.2.2.2.2.1 (mword hG hF (mem_spec hc2)) (mword hG hF ⟨hoi, rfl⟩) (mword hG hF ⟨hoc, rfl⟩) rfl (by rw [hF.2.2.2.1]; exact hR.1.2.1) rfl hd ?_ ?_ k
          · have := hF.2.2.2.2.2.2.2.2.2.2.1; omega
          · have := hF.2.2.2.2.2.2.2.2.2.2.2.1
            have e1 := mtr_sum (B := B) hro r
            have e2 : (F0 m pc lsR (Value.ref (B + a) :: r.map (mtr B ro))).monitorRoom = 0 := rfl
            rw [e1, e2]
            omega
        · cases ha
      · cases ha
    · cases ha
  case ireturn =>
    obtain rfl := mlen hsl rfl
    simp only [mact] at ha
    split at ha
    · split at ha <;> cases ha
    · cases ha
  case lreturn =>
    obtain rfl := mlen hsl rfl
    simp only [mact] at ha
    split at ha
    · cases ha
    · cases ha
  case areturn =>
    obtain rfl := mlen hsl rfl
    simp only [mact] at ha
    split at ha
    · cases ha
    · cases ha
  case return_ =>
    obtain rfl := mlen hsl rfl
    simp only [mact] at ha
    split at ha
    · cases ha
    · cases ha
  all_goals exact nomatch (show (none : Option mA) = some (.inl σ) from ha)
end
