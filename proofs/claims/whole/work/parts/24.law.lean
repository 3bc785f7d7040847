/-! THE CLAIM OUT OF A RUN OF THE SMALL MACHINE -/
def R_law : String := "FormatPressLaw"
/-- the small machine's heap at the start -/
def mh0 : mH := ((0, 0, 0), fun _ => .inr (99, []))
def mls : mL := ment 8 [.ref mRO]
/-- what is left to show: the small machine's run of the law answers 1 -/
def mGoal : Prop := ∀ (L : Nat) (xs : Nat → Int32), L ≤ 2560 → ∃ (n d : Nat) (h : mH), d ≤ 1000 ∧ mex (L, xs) n d mm256 0 mls [] mh0 = some (.inl (some (.int 1)), h)
def lw_P (b : Addr) (xs : List Int32) (args : Array Value) (s : State) : Prop := args = #[.ref b] ∧ s.IntsAt b xs ∧ xs.length ≤ 2560 ∧ (Jvm.Cond.and given_1 narrow_1).before args s = true
def lw_Q (_ : Array Value) (s : State) (o : Outcome) (t : State) : Prop := o = .returned (some (.int 1)) ∧ Framed s o t [] 601024 7293034
def lw_Z (below : List Frame) (a : Array Value) (s : State) : State → Prop := fun t => ∃ o, t.status = .running ∧ Ended t below o ∧ lw_Q a s o t
theorem whole_start (hgoal : mGoal) {p : Program} {e : Env} {s : State} {m : MethodId} {below : List Frame} {meth : Method} {c : Code} (l : Launch) (hl : ∀ e, l.admits e → e.platform.stackTraces = false) (hadm : l.admits e) {b L : Nat} {xs : Nat → Int32} (hL : L ≤ 2560)
    (hx : p.tables.exec = Jvm.exec) (hb : c.code = code) (hr : meth.sig.returnType = ret) (hml : c.maxLocals = 8) (hown : s.vm.findClass R_law = some m.cls) (hts : ∀ w ∈ lw_tbl, w.before #[Value.ref b] s = true) (hX : va_X b L xs s s.heap) (hbl : b < s.heap.size) (hlocks : meth.locks = false) (hgv : (Jvm.Cond.and given_1 narrow_1).before #[Value.ref b] s = true) (hnm : meth.name = "law") (hT : c.exceptionTable.toList = []) :
    W p l e room_1 s m #[Value.ref b] below meth c s.heap [] 0 0 (lw_Z below #[Value.ref b] s) (entryFrame m ([Value.ref b] : List Value).toArray 8) := by
  obtain ⟨ro, D, ca, hG, hr0⟩ := mstart hts hX hbl hgv
  obtain ⟨n, d, h, hd, hex⟩ := hgoal L xs hL
  have hrun := mex_sim (l := l) hG hl n d mm256 0 mls [] mh0 _ hex
  have hro := hG.cat
  have htr : mtr s.heap.size ro (.ref mRO) = .ref b := by rw [mtr_ge (Nat.lt_irrefl _), Nat.sub_self]; exact hr0
  have hmap : ([Value.ref mRO] : List Value).map (mtr s.heap.size ro) = [.ref b] := by rw [List.map_cons, htr]; rfl
  have hF : mFF s mm256 p e room_1 s m meth c d (mh0.1.1 + mh0.1.2.1) mh0.1.2.2 :=
    ⟨hx, hr, hlocks, hml, hown, hnm, State.WarmedH.refl s, fun pc i hi => by rw [hb]; exact mokc_spec (mge _ _) mck256 hi, by decide, by decide, by show d + 8 ≤ 2048; omega, by show 64 * d + 400 ≤ 84000; omega, by decide, hl e hadm⟩
  have hent := lv_entry ([Value.ref mRO].map (mtr s.heap.size ro)) (n := 8) (by rw [mla_len (mtr s.heap.size ro) (mtr_cat hro)]; decide)
  have hLH : mLH (mtr s.heap.size ro) ((lg_sl ([Value.ref mRO].map (mtr s.heap.size ro)) ++ List.replicate (8 - (lg_sl ([Value.ref mRO].map (mtr s.heap.size ro))).length) Slot.unset).toArray) 8 mls := by
    refine ⟨rfl, hent.1, hent.2.1, fun q hq => ?_⟩
    obtain ⟨v, hv, e2⟩ := mlv_mem.mp hq
    have h3 := mla_lv (mtr s.heap.size ro) (mtr_cat hro) [.ref mRO] 0 q.1 v (mlg_app (fun j => mlg_rep _ j) hv)
    rw [Nat.zero_add, ← e2] at h3
    exact hent.2.2 q h3
  have K := hrun p e room_1 s m #[Value.ref b] below meth c s.heap [] 0 0 _ mh0 hF (by unfold mTab; rw [hT]; rfl) (fun q _ => rfl) ⟨by decide, by decide, fun k n f e => by cases e⟩ (Nat.le_refl _) ⟨hLH, fun k q hq => (by simp [mw, mh0] at hq), va_S.rf, fun _ => rfl, rfl, rfl⟩
  rw [hmap] at K
  rw [lg_entry_eq]
  refine mW (fun t ht => ?_) K
  obtain ⟨o, h1, h2, h3, h4, h5, -, L', k, n', h6, h7, h8, h9, h10⟩ := ht
  have h3' : o = .returned (some (.int 1)) := h3
  refine ⟨o, h1, h2, h3', ⟨_, h3'⟩, h6, ?_⟩
  have hk : k ≤ 601024 := by
    have q1 : h.1.1 + h.1.2.1 ≤ mCap := h5.1
    have q2 : 0 + 0 + k = h.1.1 + h.1.2.1 := h9
    show k ≤ mCap
    omega
  have hn' : n' ≤ 7293034 := by
    have q1 : h.1.2.2 ≤ mSap := h5.2.1
    have q2 : 0 + n' = h.1.2.2 := h10
    show n' ≤ mSap
    omega
  exact h7.weaken (fun y hy hlt => absurd hlt (Nat.not_lt.mpr (h8 y hy).1)) hk hn'
set_option maxHeartbeats 4000000 in
theorem lw_walk (hgoal : mGoal) (l : Launch) (hl : ∀ e, l.admits e → e.platform.stackTraces = false) (b : Addr) (xs : List Int32) : MetFree l x (headSpec (Jvm.Cond.code x code maxLocals ret :: tables_1) room_1) (lw_P b xs) (fun _ _ _ _ _ => True) lw_Q := by
  refine MetFree.of_bodyS (code := code) (maxLocals := maxLocals) (ret := ret) (by decide) ?_ ?_
  · intro args s m h hn
    obtain ⟨meth, c, h1, h2, h3, h4, h5, h6, -, -⟩ := Cond.code_spec hn (atoms_spec (ws := Jvm.Cond.code x code maxLocals ret :: tables_1) h _ List.mem_cons_self)
    exact ⟨meth, c, h1, h2, h3, h4, h5, h6⟩
  · intro p e s m args below meth c s₁ B hml0 hP _
    obtain ⟨rfl, hx, hbd, hgv⟩ := hP
    obtain ⟨scr, harrAt, hlist, hof, hsmall⟩ := hx
    obtain ⟨hcb, hkn, -, -⟩ := State.arrayAt?_spec harrAt
    have hown : s.vm.findClass R_law = some m.cls := findClass_of_methodNamed B.named
    have hts0 : ∀ c ∈ (Jvm.Cond.code x code maxLocals ret :: tables_1), c.before #[Value.ref b] s = true := atoms_spec (ws := Jvm.Cond.code x code maxLocals ret :: tables_1) B.pre
    have hts : ∀ w ∈ lw_tbl, w.before #[Value.ref b] s = true := k2_hts_sels lw_privs (fun w hw => hts0 w (List.mem_cons_of_mem _ hw)) lw_privs_ok
    have hml : c.maxLocals = 8 := B.maxLocals_eq (hts0 _ List.mem_cons_self)
    have X₀ : Stand p l e room_1 s m #[Value.ref b] below meth c s₁ [] 0 0 := Stand.of_body B
    have hh0 : s₁.heap = s.heap := by rw [B.state]; rfl
    have hsz : scr.slots.size = xs.length := by rw [← Array.length_toList, hlist, List.length_map]
    have hval : ∀ j : Nat, j < xs.length → scr.slots[j]? = some (.int (xs.getD j 0)) := fun j hj => by
      rw [← Array.getElem?_toList, hlist]
      simp [hj]
    have hbl : b < s.heap.size := (Array.getElem?_eq_some_iff.mp hcb).1
    have hX : va_X b xs.length (fun j => xs.getD j 0) s s.heap := ⟨scr, hcb, hof, hkn, hsz, hval⟩
    have hnoh := B.noHandlers (hts0 _ List.mem_cons_self)
    have K : W p l e room_1 s m #[Value.ref b] below meth c s₁.heap [] 0 0 (lw_Z below #[Value.ref b] s) (entryFrame m ([Value.ref b] : List Value).toArray 8) := by
      rw [hh0]
      exact whole_start hgoal l hl B.admits hbd B.exec B.bytes B.returns hml hown hts hX hbl B.notSynchronized hgv (name_of_methodNamed B.named B.method).1 (by simpa using hnoh)
    obtain ⟨t, a1, o, b1, b2, b3⟩ := K s₁ rfl X₀
    exact ⟨t, o, a1, b1, b2, b3⟩
theorem lw_pre_spec {args : Array Value} {s : State} (h : (Jvm.Cond.and given_1 narrow_1).before args s = true) (hr : rest_1_c.before args s = true) : ∃ (b : Addr) (xs : List Int32), lw_P b xs args s := by
  have hs := flat_of_before _ h
  have hq := flat_of_before _ hr
  have hc : (Cond.count 1).before args s = true := hs _ (by decide +kernel)
  have harr : (Cond.arrayOf (.arg 0) .int).before args s = true := hs _ (by decide +kernel)
  have hle : (Cond.le (.length (.arg 0)) (.int 2560)).before args s = true := hs _ (by decide +kernel)
  have hlen : (Cond.isInt (.length (.arg 0))).before args s = true := hq _ (by decide +kernel)
  have hall : (Cond.all (.arg 0) (.isInt (.elem (.arg 0) (.index 0)))).before args s = true := hq _ (by decide +kernel)
  obtain ⟨b, xs, hb, hx⟩ := State.ints_of_pre rfl harr hlen hall
  have hsm : xs.length < 2 ^ 31 := hx.choose_spec.2.2.2
  have hev : (Term.length (.arg 0)).eval args s none [] s = some (.int xs.length.toInt32) := hx.length_eval hb
  have hv := Cond.le_ints hev (show (Term.int 2560).eval args s none [] s = some (.int 2560) from rfl)
  have hd : xs.length.toInt32 ≤ 2560 := by
    simpa [Cond.before, Cond.holds, hv] using hle
  have hN : xs.length ≤ 2560 := (Int32.ofNat_le_ofNat hsm (by decide)).mp (show Int32.ofNat xs.length ≤ Int32.ofNat 2560 from hd)
  exact ⟨b, xs, Cond.one_arg hc (show args[0]? = some (.ref b) from hb), hx, hN, h⟩
theorem lw_limb (hgoal : mGoal) (L : Cond) (hL : ∀ (args : Array Value) (s t : State), L.after args s (.returned (some (.int 1))) t = true) :
    ArmFor flags0 classFile x code maxLocals ret World_1 tables_1 room_1 Calls_1 rest_1 Pre_1
      (fun tb e a s o t => postC L tb e a s o t ∧ Framed s o t (fieldLocs frame_1_writes a s ++ arrayLocs frame_1_arrays a s ++ staticLocs frame_1_statics s) 601024 7293034) := by
  intro l hfl _ _ p e ha hc hk s m args below hf hfit hheap happ hpre
  obtain ⟨b, xs, hP⟩ := lw_pre_spec hpre.2.2 hpre.2.1
  obtain ⟨k, o, h1, h2, h3, rfl, hF⟩ := lw_walk hgoal l (fun e he => Launch.traces_off hfl he) b xs p e ha hc hk s m args below hf ((Spec.applies_iff_loose hf).mp happ).1 hP trivial
  exact ⟨k, _, h1, h2, h3, hL args s _, hF⟩
theorem vc_of_goal (hgoal : mGoal) : Claimed_1_1 ∧ Claimed_1_2 := ⟨lw_limb hgoal limb_1_1 (fun args s t => by simp [limb_1_1, Cond.after, Cond.holds, Cond.value]), lw_limb hgoal limb_1_2 (fun args s t => Cond.after_iff.mpr (by
  first | (rw [show limb_1_2 = Cond.eq .result (.int 1) from rfl, Cond.eq_ints (x := 1) (y := 1) rfl rfl]; simp; done) | (simp [limb_1_2, Cond.value, Term.eval]; done)))⟩
