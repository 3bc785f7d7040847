/-! String's methods at the literals -/
def zlenN (c : Nat) : Nat := (mSB.getD c []).length
def zlen (c : Nat) : Int32 := zi (zlenN c)
def zbyte (c : Nat) : Nat → Int32 := fun k => (mSB.getD c []).getD k 0
def zchr (c : Nat) (i : Int32) : Int32 := zbyte c i.toNatClampNeg
/-- the first place of x, from j on -/
def zfind (x : Int32) : List Int32 → Int → Int32
  | [], _ => zi (-1)
  | b :: r, j => if b = x then zi j else zfind x r (j + 1)
def zidx (c : Nat) (x : Int32) : Int32 := zfind x (mSB.getD c []) 0
theorem mSB_len : mSB.length = 78 := by decide +kernel
theorem mget_lit {X : mX} {h : mH} {c : Nat} (hc : c < 78) : mget X h (mRO + 3 + 2 * c) = some (.inr (14, [.ref (mRO + 3 + 2 * c + 1), .int (zi 0)])) := by
  unfold mget mro
  rw [if_neg (by omega)]
  have e : mRO + 3 + 2 * c - mRO = 3 + 2 * c := by omega
  rw [e, beq_ne (by omega : 3 + 2 * c ≠ 0), beq_ne (by omega : 3 + 2 * c ≠ 1)]
  have e2 : Nat.blt (3 + 2 * c) 3 = false := by
    cases q : Nat.blt (3 + 2 * c) 3 with
    | false => rfl
    | true => exact absurd (Nat.blt_eq.mp q) (by omega)
  have e3 : (3 + 2 * c - 3) / 2 = c := by omega
  have e4 : (3 + 2 * c - 3) % 2 = 0 := by omega
  have e5 : Nat.blt c mSB.length = true := Nat.blt_eq.mpr (by rw [mSB_len]; exact hc)
  rw [e2, e3, e4, e5, ← Nat.add_assoc mRO 3 (2 * c)]
  rfl
theorem mget_litb {X : mX} {h : mH} {c : Nat} (hc : c < 78) : mget X h (mRO + 3 + 2 * c + 1) = some (.inl (.byte, zlenN c, .inl (zbyte c))) := by
  unfold mget mro
  rw [if_neg (by omega)]
  have e : mRO + 3 + 2 * c + 1 - mRO = 4 + 2 * c := by omega
  rw [e, beq_ne (by omega : 4 + 2 * c ≠ 0), beq_ne (by omega : 4 + 2 * c ≠ 1)]
  have e2 : Nat.blt (4 + 2 * c) 3 = false := by
    cases q : Nat.blt (4 + 2 * c) 3 with
    | false => rfl
    | true => exact absurd (Nat.blt_eq.mp q) (by omega)
  have e3 : (4 + 2 * c - 3) / 2 = c := by omega
  have e4 : (4 + 2 * c - 3) % 2 = 1 := by omega
  have e5 : Nat.blt c mSB.length = true := Nat.blt_eq.mpr (by rw [mSB_len]; exact hc)
  rw [e2, e3, e4, e5]
  rfl
theorem getf_ok {X : mX} {h : mH} {a ci k pc : Nat} {ls : mL} {st : List Value} {fs : List Value} {v : Value} (hg : mget X h a = some (.inr (ci, fs))) (hk : fs[k]? = some v) : mgetf X ci k pc ls (.ref a :: st) h = some (.inl (pc + 3, ls, v :: st, h)) := by
  simp only [mgetf, hg, hk]
  rw [if_pos trivial]
  rfl
theorem alen_ok {X : mX} {h : mH} {a n pc : Nat} {ls : mL} {st : List Value} {f : Nat → Int32} (hg : mget X h a = some (.inl (.byte, n, .inl f))) : malen X pc ls (.ref a :: st) h = some (.inl (pc + 1, ls, .int (Int32.ofNat n) :: st, h)) := by
  simp only [malen, hg]
  rw [if_pos (Or.inr (Or.inl trivial))]
  rfl
theorem callV_ok {X : mX} {h : mH} {a ci k n : Nat} {st : List Value} {fs : List Value} {M' : mM} {r : Option mA} (ha : st[n - 1]? = some (.ref a)) (hg : mget X h a = some (.inr (ci, fs))) (hM : mtab k = some M') (hr : (if ci = M'.2.1 ∧ 1 ≤ n ∧ mSK k = false ∧ mIN k = false then mcall k n st else none) = r) : mcallV X k n st h = r := by
  simp only [mcallV, ha, hg, hM]
  exact hr
theorem litcall {X : mX} {M M' : mM} {h : mH} {c k n j pc : Nat} {z : Int} {ls : mL} {st : List Value} {r : Option mA} (hl : mlk M.2.1 j = (1, k, n, z)) (ha : st[n - 1]? = some (.ref (mRO + 3 + 2 * c))) (hc : c < 78) (hM : mtab k = some M') (hr : (if 14 = M'.2.1 ∧ 1 ≤ n ∧ mSK k = false ∧ mIN k = false then mcall k n st else none) = r) : mact X M (.invokevirtual j) pc ls st h = r := by
  have e0 : mact X M (.invokevirtual j) pc ls st h = (match mlk M.2.1 j with
    | (1, k, n, _) => mcallV X k n st h
    | _ => none) := rfl
  rw [e0, hl]
  exact callV_ok ha (mget_lit hc) hM hr
theorem lits_le : ∀ c, c < 78 → zlenN c < 1000 := by decide +kernel
theorem litb_ok : ∀ c, c < 78 → ∀ k, k < 150 → (0 ≤ (zbyte c k).toInt ∧ (zbyte c k).toInt < 128) := by decide +kernel
theorem getfm_ok {X : mX} {M : mM} {h : mH} {a ci k pc j : Nat} {z : Int} {ls : mL} {st : List Value} {fs : List Value} {v : Value} (hl : mlk M.2.1 j = (0, ci, k, z)) (hg : mget X h a = some (.inr (ci, fs))) (hk : fs[k]? = some v) : mact X M (.getfield j) pc ls (.ref a :: st) h = some (.inl (pc + 3, ls, v :: st, h)) := by
  have e0 : mact X M (.getfield j) pc ls (.ref a :: st) h = (match mlk M.2.1 j with
    | (0, ci, k, _) => mgetf X ci k pc ls (.ref a :: st) h
    | _ => none) := rfl
  rw [e0, hl]
  exact getf_ok hg hk
theorem alenm_ok {X : mX} {M : mM} {h : mH} {a n pc : Nat} {ls : mL} {st : List Value} {f : Nat → Int32} (hg : mget X h a = some (.inl (.byte, n, .inl f))) : mact X M .arraylength pc ls (.ref a :: st) h = some (.inl (pc + 1, ls, .int (Int32.ofNat n) :: st, h)) := alen_ok hg
theorem lit_all : ∀ l ∈ mSB, (∀ b ∈ l, zI2C (b &&& zi 255) = b ∧ mfit .char (.int b) = true ∧ zi 0 ≤ b ∧ b < zi 128) ∧ l.length < 1000 ∧ zshr (Int32.ofNat l.length) (zi 0) = zi l.length ∧ Int32.ofNat l.length = zi l.length := by decide +kernel
theorem lit_mem {c : Nat} (hc : c < 78) : mSB.getD c [] ∈ mSB := by
  have hl : c < mSB.length := by rw [mSB_len]; exact hc
  rw [List.getD_eq_getElem?_getD, List.getElem?_eq_getElem hl]
  exact List.getElem_mem hl
theorem lit_b {c k : Nat} (hc : c < 78) (hk : k < zlenN c) : zI2C (zbyte c k &&& zi 255) = zbyte c k ∧ mfit .char (.int (zbyte c k)) = true ∧ zi 0 ≤ zbyte c k ∧ zbyte c k < zi 128 := by
  have h1 := (lit_all _ (lit_mem hc)).1
  have h2 : zbyte c k ∈ mSB.getD c [] := by
    unfold zbyte
    have hk' : k < (mSB.getD c []).length := hk
    rw [List.getD_eq_getElem?_getD (i := k), List.getElem?_eq_getElem hk']
    exact List.getElem_mem hk'
  exact h1 _ h2
theorem kcoder {X : mX} {D c : Nat} {s : zS} (hc : c < 78) : Ev X D mm245 0 [some (.ref (mRO + 3 + 2 * c))] [] (mk s) (.inl (some (.int (zi 0))), mk s) := by
  refine Ev.run (pc' := 3) (ls' := [some (.ref (mRO + 3 + 2 * c))]) (st' := [.int (zi 1)]) (h' := mk s) 1 rfl ?_
  refine Ev.if_eq (t := 13) rfl rfl (fun hb => absurd hb (by decide)) (fun _ => ?_)
  refine Ev.run (pc' := 7) (ls' := [some (.ref (mRO + 3 + 2 * c))]) (st' := [.ref (mRO + 3 + 2 * c)]) (h' := mk s) 1 rfl ?_
  refine Ev.step (pc' := 10) rfl (getfm_ok rfl (mget_lit hc) rfl) ?_
  refine Ev.run (pc' := 14) (ls' := [some (.ref (mRO + 3 + 2 * c))]) (st' := [.int (zi 0)]) (h' := mk s) 1 rfl ?_
  exact Ev.fin rfl rfl
theorem klatin {X : mX} {D c : Nat} {s : zS} (hc : c < 78) : Ev X D mm246 0 [some (.ref (mRO + 3 + 2 * c))] [] (mk s) (.inl (some (.int (zi 1))), mk s) := by
  refine Ev.run (pc' := 3) (ls' := [some (.ref (mRO + 3 + 2 * c))]) (st' := [.int (zi 1)]) (h' := mk s) 1 rfl ?_
  refine Ev.if_eq (t := 17) rfl rfl (fun hb => absurd hb (by decide)) (fun _ => ?_)
  refine Ev.run (pc' := 7) (ls' := [some (.ref (mRO + 3 + 2 * c))]) (st' := [.ref (mRO + 3 + 2 * c)]) (h' := mk s) 1 rfl ?_
  refine Ev.step (pc' := 10) rfl (getfm_ok rfl (mget_lit hc) rfl) ?_
  refine Ev.if_ne (t := 17) rfl rfl (fun hb => absurd rfl hb) (fun _ => ?_)
  refine Ev.run (pc' := 18) (ls' := [some (.ref (mRO + 3 + 2 * c))]) (st' := [.int (zi 1)]) (h' := mk s) 2 rfl ?_
  exact Ev.fin rfl rfl
theorem kstrlen1 {X : mX} {D c : Nat} {s : zS} (hc : c < 78) : Ev X (D + 1) mm241 0 [some (.ref (mRO + 3 + 2 * c))] [] (mk s) (.inl (some (.int (zlen c))), mk s) := by
  refine Ev.run (pc' := 1) (ls' := [some (.ref (mRO + 3 + 2 * c))]) (st' := [.ref (mRO + 3 + 2 * c)]) (h' := mk s) 1 rfl ?_
  refine Ev.step (pc' := 4) rfl (getfm_ok rfl (mget_lit hc) rfl) ?_
  refine Ev.step (pc' := 5) rfl (alenm_ok (mget_litb hc)) ?_
  refine Ev.run (pc' := 6) (ls' := [some (.ref (mRO + 3 + 2 * c))]) (st' := [.ref (mRO + 3 + 2 * c), .int (Int32.ofNat (zlenN c))]) (h' := mk s) 1 rfl ?_
  refine Ev.call (M' := mm245) (as := [.ref (mRO + 3 + 2 * c)]) (rest := [.int (Int32.ofNat (zlenN c))]) (v := some (.int (zi 0))) (h' := mk s) rfl (litcall rfl rfl hc rfl rfl) rfl (Nat.le_of_ble_eq_true rfl) (kcoder hc) ?_
  refine Ev.run (pc' := 10) (ls' := [some (.ref (mRO + 3 + 2 * c))]) (st' := [.int (zshr (Int32.ofNat (zlenN c)) (zi 0))]) (h' := mk s) 1 rfl ?_
  have e : zshr (Int32.ofNat (zlenN c)) (zi 0) = zlen c := (lit_all _ (lit_mem hc)).2.2.1
  rw [e]
  exact Ev.fin rfl rfl
theorem kstrlen {X : mX} {D c : Nat} {s : zS} (hc : c < 78) : Ev X (D + 4) mm241 0 [some (.ref (mRO + 3 + 2 * c))] [] (mk s) (.inl (some (.int (zlen c))), mk s) := kstrlen1 hc
theorem ofNat_lt {i : Int32} {n : Nat} (hn : n < 1000) (hx : mIx i n) : i < Int32.ofNat n := by
  have h1 := fun q => hx (Or.inl q)
  have h2 := fun q => hx (Or.inr q)
  rw [Int32.lt_iff_toInt_lt] at h1 ⊢
  rw [Int32.toInt_ofNat_of_lt (by omega)]
  have e : i.toNatClampNeg = i.toInt.toNat := rfl
  rw [e] at h2
  have e0 : (0 : Int32).toInt = 0 := rfl
  rw [e0] at h1
  omega
theorem kcheck1 {X : mX} {D n : Nat} {s : zS} {i : Int32} (hn : n < 1000) (hx : mIx i n) : Ev X D mm269 0 [some (.int i), some (.int (Int32.ofNat n)), some (.ref (mRO + 2))] [] (mk s) (.inl (some (.int i)), mk s) := by
  refine Ev.run (pc' := 1) (ls' := [some (.int i), some (.int (Int32.ofNat n)), some (.ref (mRO + 2))]) (st' := [.int i]) (h' := mk s) 1 rfl ?_
  refine Ev.if_lt (t := 9) rfl rfl (fun hb => absurd (Or.inl hb) hx) (fun _ => ?_)
  refine Ev.run (pc' := 6) (ls' := [some (.int i), some (.int (Int32.ofNat n)), some (.ref (mRO + 2))]) (st' := [.int (Int32.ofNat n), .int i]) (h' := mk s) 2 rfl ?_
  refine Ev.icmp_lt (t := 16) rfl rfl (fun _ => ?_) (fun hb => absurd (ofNat_lt hn hx) hb)
  refine Ev.run (pc' := 17) (ls' := [some (.int i), some (.int (Int32.ofNat n)), some (.ref (mRO + 2))]) (st' := [.int i]) (h' := mk s) 1 rfl ?_
  exact Ev.fin rfl rfl
theorem kcheck {X : mX} {D n : Nat} {s : zS} {i : Int32} (hn : n < 1000) (hx : mIx i n) : Ev X (D + 1) mm247 0 [some (.int i), some (.int (Int32.ofNat n))] [] (mk s) (.inl none, mk s) := by
  refine Ev.run (pc' := 5) (ls' := [some (.int i), some (.int (Int32.ofNat n))]) (st' := [.ref (mRO + 2), .int (Int32.ofNat n), .int i]) (h' := mk s) 3 rfl ?_
  refine Ev.call (M' := mm269) (v := some (.int i)) (h' := mk s) rfl rfl rfl (Nat.le_of_ble_eq_true rfl) (kcheck1 hn hx) ?_
  refine Ev.run (pc' := 9) (ls' := [some (.int i), some (.int (Int32.ofNat n))]) (st' := []) (h' := mk s) 1 rfl ?_
  exact Ev.fin rfl rfl
theorem kcharl {X : mX} {D c : Nat} {s : zS} {i : Int32} (hc : c < 78) (hx : mIx i (zlenN c)) : Ev X (D + 2) mm257 0 [some (.ref (mRO + 3 + 2 * c + 1)), some (.int i)] [] (mk s) (.inl (some (.int (zchr c i))), mk s) := by
  have hk : i.toNatClampNeg < zlenN c := Nat.lt_of_not_le (fun q => hx (Or.inr q))
  have hb := lit_b hc hk
  refine Ev.run (pc' := 2) (ls' := [some (.ref (mRO + 3 + 2 * c + 1)), some (.int i)]) (st' := [.ref (mRO + 3 + 2 * c + 1), .int i]) (h' := mk s) 2 rfl ?_
  refine Ev.step (pc' := 3) rfl (alenm_ok (mget_litb hc)) ?_
  refine Ev.call (M' := mm247) (v := none) (h' := mk s) rfl rfl rfl (Nat.le_of_ble_eq_true rfl) (kcheck (lit_all _ (lit_mem hc)).2.1 hx) ?_
  refine Ev.run (pc' := 8) (ls' := [some (.ref (mRO + 3 + 2 * c + 1)), some (.int i)]) (st' := [.int i, .ref (mRO + 3 + 2 * c + 1)]) (h' := mk s) 2 rfl ?_
  refine Ev.step (pc' := 9) rfl (ald_b (mget_litb hc) hx) ?_
  refine Ev.run (pc' := 14) (ls' := [some (.ref (mRO + 3 + 2 * c + 1)), some (.int i)]) (st' := [.int (zI2C (zbyte c i.toNatClampNeg &&& zi 255))]) (h' := mk s) 3 rfl ?_
  rw [hb.1]
  refine Ev.fin rfl ?_
  have e : mact X mm257 .ireturn 14 [some (.ref (mRO + 3 + 2 * c + 1)), some (.int i)] [.int (zbyte c i.toNatClampNeg)] (mk s) = if mfit .char (.int (zbyte c i.toNatClampNeg)) = true then some (.inr (.inr (.inl (some (.int (zbyte c i.toNatClampNeg))), mk s))) else none := rfl
  rw [e, if_pos hb.2.1]
  rfl
theorem kcharat {X : mX} {D c : Nat} {s : zS} {i : Int32} (hc : c < 78) (hx : mIx i (zlenN c)) : Ev X (D + 4) mm242 0 [some (.ref (mRO + 3 + 2 * c)), some (.int i)] [] (mk s) (.inl (some (.int (zchr c i))), mk s) := by
  have hk : i.toNatClampNeg < zlenN c := Nat.lt_of_not_le (fun q => hx (Or.inr q))
  have hb := lit_b hc hk
  refine Ev.run (pc' := 1) (ls' := [some (.ref (mRO + 3 + 2 * c)), some (.int i)]) (st' := [.ref (mRO + 3 + 2 * c)]) (h' := mk s) 1 rfl ?_
  refine Ev.call (M' := mm246) (as := [.ref (mRO + 3 + 2 * c)]) (rest := []) (v := some (.int (zi 1))) (h' := mk s) rfl (litcall rfl rfl hc rfl rfl) rfl (Nat.le_of_ble_eq_true rfl) (klatin hc) ?_
  refine Ev.if_eq (t := 16) rfl rfl (fun hb => absurd hb (by decide)) (fun _ => ?_)
  refine Ev.run (pc' := 8) (ls' := [some (.ref (mRO + 3 + 2 * c)), some (.int i)]) (st' := [.ref (mRO + 3 + 2 * c)]) (h' := mk s) 1 rfl ?_
  refine Ev.step (pc' := 11) rfl (getfm_ok rfl (mget_lit hc) rfl) ?_
  refine Ev.run (pc' := 12) (ls' := [some (.ref (mRO + 3 + 2 * c)), some (.int i)]) (st' := [.int i, .ref (mRO + 3 + 2 * c + 1)]) (h' := mk s) 1 rfl ?_
  refine Ev.call (M' := mm257) (v := some (.int (zchr c i))) (h' := mk s) rfl rfl rfl (Nat.le_of_ble_eq_true rfl) (kcharl hc hx) ?_
  refine Ev.fin rfl ?_
  have e : mact X mm242 .ireturn 15 [some (.ref (mRO + 3 + 2 * c)), some (.int i)] [.int (zbyte c i.toNatClampNeg)] (mk s) = if mfit .char (.int (zbyte c i.toNatClampNeg)) = true then some (.inr (.inr (.inl (some (.int (zbyte c i.toNatClampNeg))), mk s))) else none := rfl
  show mact X mm242 .ireturn 15 [some (.ref (mRO + 3 + 2 * c)), some (.int i)] [.int (zbyte c i.toNatClampNeg)] (mk s) = _
  rw [e, if_pos hb.2.1]
  rfl
theorem zB_all : ∀ k, k < 256 → (zI2B (zi (k : Nat)) = if k < 128 then zi k else zi ((k : Int) - 256)) := by decide +kernel
theorem zi_inj {a b : Int} (h1 : -2147483648 ≤ a) (h2 : a < 2147483648) (h3 : -2147483648 ≤ b) (h4 : b < 2147483648) (h : zi a = zi b) : a = b := by
  have e := congrArg Int32.toInt h
  unfold zi at e
  rwa [Int32.toInt_ofInt_of_le (by exact h1) (by exact h2), Int32.toInt_ofInt_of_le (by exact h3) (by exact h4)] at e
theorem zB_eq {b x : Int32} (hb : zi 0 ≤ b ∧ b < zi 128) (hx : zi 0 ≤ x ∧ x ≤ zi 255) : b = zI2B x ↔ b = x := by
  rw [Int32.le_iff_toInt_le, Int32.lt_iff_toInt_lt] at hb
  rw [Int32.le_iff_toInt_le, Int32.le_iff_toInt_le] at hx
  have e0 : (zi 0).toInt = 0 := rfl
  have e1 : (zi 128).toInt = 128 := rfl
  have e2 : (zi 255).toInt = 255 := rfl
  rw [e0, e1] at hb
  rw [e0, e2] at hx
  obtain ⟨k, hk⟩ : ∃ k : Nat, x.toInt = k := ⟨x.toInt.toNat, by omega⟩
  have ex : x = zi k := zi_of_toInt hk
  have eb : b = zi b.toInt := zi_of_toInt rfl
  rw [ex, zB_all k (by omega)]
  split
  · exact Iff.rfl
  · rw [eb]
    constructor
    · intro q
      exact absurd (zi_inj (by omega) (by omega) (by omega) (by omega) q) (by omega)
    · intro q
      exact absurd (zi_inj (by omega) (by omega) (by omega) (by omega) q) (by omega)
theorem zfind_none {x : Int32} : ∀ (l : List Int32) (j : Int), (∀ b ∈ l, b ≠ x) → zfind x l j = zi (-1) := by
  intro l
  induction l with
  | nil => intro j _; rfl
  | cons b r ih =>
    intro j h
    have e : zfind x (b :: r) j = if b = x then zi j else zfind x r (j + 1) := rfl
    rw [e, if_neg (h b List.mem_cons_self)]
    exact ih _ (fun q hq => h q (List.mem_cons_of_mem _ hq))
theorem kencode {X : mX} {D : Nat} {s : zS} {x : Int32} : Ev X D mm258 0 [some (.int x)] [] (mk s) (.inl (some (.int (if x < zi 0 then zi 0 else if x > zi 255 then zi 0 else zi 1))), mk s) := by
  refine Ev.run (pc' := 1) (ls' := [some (.int x)]) (st' := [.int x]) (h' := mk s) 1 rfl ?_
  refine Ev.if_lt (t := 15) rfl rfl (fun hb => ?_) (fun hb => ?_)
  · rw [if_pos hb]
    refine Ev.run (pc' := 16) (ls' := [some (.int x)]) (st' := [.int (zi 0)]) (h' := mk s) 1 rfl ?_
    exact Ev.fin rfl rfl
  · rw [if_neg hb]
    refine Ev.run (pc' := 8) (ls' := [some (.int x)]) (st' := [.int (zi 255), .int x]) (h' := mk s) 2 rfl ?_
    refine Ev.icmp_gt (t := 15) rfl rfl (fun hb => ?_) (fun hb => ?_)
    · rw [if_pos hb]
      refine Ev.run (pc' := 16) (ls' := [some (.int x)]) (st' := [.int (zi 0)]) (h' := mk s) 1 rfl ?_
      exact Ev.fin rfl rfl
    · rw [if_neg hb]
      refine Ev.run (pc' := 16) (ls' := [some (.int x)]) (st' := [.int (zi 1)]) (h' := mk s) 2 rfl ?_
      exact Ev.fin rfl rfl
theorem zi_toNat {k : Nat} (hk : k < 2147483648) : (zi k).toNatClampNeg = k := by
  have e : (zi k).toNatClampNeg = (zi k).toInt.toNat := rfl
  rw [e]
  unfold zi
  rw [Int32.toInt_ofInt_of_le (by show (-2147483648 : Int) ≤ _; omega) (by show _ < (2147483648 : Int); omega)]
  omega
theorem zi_lt {a b : Int} (h1 : -2147483648 ≤ a) (h2 : a < 2147483648) (h3 : -2147483648 ≤ b) (h4 : b < 2147483648) : zi a < zi b ↔ a < b := by
  rw [Int32.lt_iff_toInt_lt]
  unfold zi
  rw [Int32.toInt_ofInt_of_le (by exact h1) (by exact h2), Int32.toInt_ofInt_of_le (by exact h3) (by exact h4)]
theorem zi_le {a b : Int} (h1 : -2147483648 ≤ a) (h2 : a < 2147483648) (h3 : -2147483648 ≤ b) (h4 : b < 2147483648) : zi a ≤ zi b ↔ a ≤ b := by
  rw [Int32.le_iff_toInt_le]
  unfold zi
  rw [Int32.toInt_ofInt_of_le (by exact h1) (by exact h2), Int32.toInt_ofInt_of_le (by exact h3) (by exact h4)]
theorem zi_add (a b : Int) : zi a + zi b = zi (a + b) := (Int32.ofInt_add a b).symm
theorem kidxl {X : mX} {D c : Nat} {s : zS} {x : Int32} (hc : c < 78) (hx : zi 0 ≤ x ∧ x ≤ zi 255) : ∀ (m j : Nat), j + m = zlenN c → ∀ (l : List Int32), l = (mSB.getD c []).drop j → Ev X D mm260 7 [some (.ref (mRO + 3 + 2 * c + 1)), some (.int x), some (.int (zi 0)), some (.int (zlen c)), some (.int (zI2B x)), some (.int (zi j))] [] (mk s) (.inl (some (.int (zfind x l j))), mk s) := by
  have hn := (lit_all _ (lit_mem hc)).2.1
  have hn2 : zlenN c < 1000 := hn
  intro m
  induction m with
  | zero =>
    intro j hj l hl
    have e : l = [] := by rw [hl]; exact List.drop_eq_nil_of_le (by show (mSB.getD c []).length ≤ j; have : zlenN c = (mSB.getD c []).length := rfl; omega)
    refine Ev.run (pc' := 10) (ls' := [some (.ref (mRO + 3 + 2 * c + 1)), some (.int x), some (.int (zi 0)), some (.int (zlen c)), some (.int (zI2B x)), some (.int (zi j))]) (st' := [.int (zlen c), .int (zi j)]) (h' := mk s) 2 rfl ?_
    refine Ev.icmp_ge (t := 31) rfl rfl (fun _ => ?_) (fun hb => ?_)
    · rw [e]
      refine Ev.run (pc' := 32) (ls' := [some (.ref (mRO + 3 + 2 * c + 1)), some (.int x), some (.int (zi 0)), some (.int (zlen c)), some (.int (zI2B x)), some (.int (zi j))]) (st' := [.int (zi (-1))]) (h' := mk s) 1 rfl ?_
      exact Ev.fin rfl rfl
    · exact absurd ((zi_le (by omega) (by omega) (by omega) (by omega)).mpr (by omega)) hb
  | succ m ih =>
    intro j hj l hl
    have hjl : j < (mSB.getD c []).length := by have : zlenN c = (mSB.getD c []).length := rfl; omega
    have el : l = zbyte c j :: (mSB.getD c []).drop (j + 1) := by
      rw [hl, List.drop_eq_getElem_cons hjl]
      congr 1
      unfold zbyte
      rw [List.getD_eq_getElem?_getD (i := j), List.getElem?_eq_getElem hjl]
      rfl
    have hb := lit_b hc (by omega : j < zlenN c)
    have ej : (zi j).toNatClampNeg = j := zi_toNat (by omega)
    have hix : mIx (zi j) (zlenN c) := by
      intro q
      rcases q with q | q
      · exact absurd ((zi_lt (a := j) (b := 0) (by omega) (by omega) (by omega) (by omega)).mp q) (by omega)
      · rw [ej] at q
        omega
    have ez : zfind x l j = if zbyte c j = x then zi j else zfind x ((mSB.getD c []).drop (j + 1)) (j + 1) := by
      rw [el]
      rfl
    refine Ev.run (pc' := 10) (ls' := [some (.ref (mRO + 3 + 2 * c + 1)), some (.int x), some (.int (zi 0)), some (.int (zlen c)), some (.int (zI2B x)), some (.int (zi j))]) (st' := [.int (zlen c), .int (zi j)]) (h' := mk s) 2 rfl ?_
    refine Ev.icmp_ge (t := 31) rfl rfl (fun hge => ?_) (fun hge => ?_)
    · exact absurd ((zi_le (by omega) (by omega) (by omega) (by omega)).mp hge) (by omega)
    · refine Ev.run (pc' := 16) (ls' := [some (.ref (mRO + 3 + 2 * c + 1)), some (.int x), some (.int (zi 0)), some (.int (zlen c)), some (.int (zI2B x)), some (.int (zi j))]) (st' := [.int (zi j), .ref (mRO + 3 + 2 * c + 1)]) (h' := mk s) 2 rfl ?_
      refine Ev.step (pc' := 17) rfl (ald_b (mget_litb hc) hix) ?_
      rw [ej]
      refine Ev.run (pc' := 19) (ls' := [some (.ref (mRO + 3 + 2 * c + 1)), some (.int x), some (.int (zi 0)), some (.int (zlen c)), some (.int (zI2B x)), some (.int (zi j))]) (st' := [.int (zI2B x), .int (zbyte c j)]) (h' := mk s) 1 rfl ?_
      refine Ev.icmp_ne (t := 25) rfl rfl (fun hne => ?_) (fun heq => ?_)
      · rw [ez, if_neg (fun q => hne ((zB_eq hb.2.2 hx).mpr q))]
        refine Ev.run (pc' := 7) (ls' := [some (.ref (mRO + 3 + 2 * c + 1)), some (.int x), some (.int (zi 0)), some (.int (zlen c)), some (.int (zI2B x)), some (.int (zi j + zi 1))]) (st' := []) (h' := mk s) 2 rfl ?_
        rw [zi_add]
        exact ih (j + 1) (by omega) _ rfl
      · have heq2 := Classical.not_not.mp heq
        rw [ez, if_pos ((zB_eq hb.2.2 hx).mp heq2)]
        refine Ev.run (pc' := 24) (ls' := [some (.ref (mRO + 3 + 2 * c + 1)), some (.int x), some (.int (zi 0)), some (.int (zlen c)), some (.int (zI2B x)), some (.int (zi j))]) (st' := [.int (zi j)]) (h' := mk s) 1 rfl ?_
        exact Ev.fin rfl rfl
theorem kmax0 {X : mX} {D : Nat} {s : zS} : Ev X D mm264 0 [some (.int (zi 0)), some (.int (zi 0))] [] (mk s) (.inl (some (.int (zi 0))), mk s) := ⟨10, rfl⟩
theorem kmin0 {X : mX} {D n : Nat} {s : zS} : Ev X D mm265 0 [some (.int (zi n)), some (.int (zi n))] [] (mk s) (.inl (some (.int (zi n))), mk s) := by
  refine Ev.run (pc' := 2) (ls' := [some (.int (zi n)), some (.int (zi n))]) (st' := [.int (zi n), .int (zi n)]) (h' := mk s) 2 rfl ?_
  refine Ev.icmp_gt (t := 9) rfl rfl (fun _ => ?_) (fun _ => ?_)
  · refine Ev.run (pc' := 10) (ls' := [some (.int (zi n)), some (.int (zi n))]) (st' := [.int (zi n)]) (h' := mk s) 1 rfl ?_
    exact Ev.fin rfl rfl
  · refine Ev.run (pc' := 10) (ls' := [some (.int (zi n)), some (.int (zi n))]) (st' := [.int (zi n)]) (h' := mk s) 2 rfl ?_
    exact Ev.fin rfl rfl
theorem zidx_none {c : Nat} {x : Int32} (hc : c < 78) (hx : x < zi 0 ∨ x > zi 255) : zidx c x = zi (-1) := by
  refine zfind_none _ _ (fun b hb e => ?_)
  have h1 := ((lit_all _ (lit_mem hc)).1 b hb).2.2
  rw [e] at h1
  rw [Int32.le_iff_toInt_le, Int32.lt_iff_toInt_lt] at h1
  have e0 : (zi 0).toInt = 0 := rfl
  have e1 : (zi 128).toInt = 128 := rfl
  have e2 : (zi 255).toInt = 255 := rfl
  rcases hx with q | q
  · rw [Int32.lt_iff_toInt_lt] at q
    omega
  · have q : zi 255 < x := q
    rw [Int32.lt_iff_toInt_lt] at q
    omega
theorem kindex4 {X : mX} {D c : Nat} {s : zS} {x : Int32} (hc : c < 78) : Ev X (D + 1) mm259 0 [some (.ref (mRO + 3 + 2 * c + 1)), some (.int x), some (.int (zi 0)), some (.int (zlen c))] [] (mk s) (.inl (some (.int (zidx c x))), mk s) := by
  have hn : zlenN c < 1000 := (lit_all _ (lit_mem hc)).2.1
  have hof : Int32.ofNat (zlenN c) = zlen c := (lit_all _ (lit_mem hc)).2.2.2
  refine Ev.run (pc' := 1) (ls' := [some (.ref (mRO + 3 + 2 * c + 1)), some (.int x), some (.int (zi 0)), some (.int (zlen c))]) (st' := [.int x]) (h' := mk s) 1 rfl ?_
  refine Ev.call (M' := mm258) (h' := mk s) (v := some (.int (if x < zi 0 then zi 0 else if x > zi 255 then zi 0 else zi 1))) rfl rfl rfl (Nat.le_of_ble_eq_true rfl) kencode ?_
  have hnone : x < zi 0 ∨ x > zi 255 → Ev X (D + 1) mm259 7 [some (.ref (mRO + 3 + 2 * c + 1)), some (.int x), some (.int (zi 0)), some (.int (zlen c))] [] (mk s) (.inl (some (.int (zidx c x))), mk s) := by
    intro q
    rw [zidx_none hc q]
    refine Ev.run (pc' := 8) (ls' := [some (.ref (mRO + 3 + 2 * c + 1)), some (.int x), some (.int (zi 0)), some (.int (zlen c))]) (st' := [.int (zi (-1))]) (h' := mk s) 1 rfl ?_
    exact Ev.fin rfl rfl
  refine Ev.if_ne (t := 9) rfl rfl (fun hb => ?_) (fun hb => ?_)
  · by_cases q1 : x < zi 0
    · rw [if_pos q1] at hb
      exact absurd rfl hb
    · rw [if_neg q1] at hb
      by_cases q2 : x > zi 255
      · rw [if_pos q2] at hb
        exact absurd rfl hb
      · have hx : zi 0 ≤ x ∧ x ≤ zi 255 := by
          rw [Int32.le_iff_toInt_le, Int32.le_iff_toInt_le]
          rw [Int32.lt_iff_toInt_lt] at q1
          have q2 : ¬ zi 255 < x := q2
          rw [Int32.lt_iff_toInt_lt] at q2
          omega
        refine Ev.run (pc' := 11) (ls' := [some (.ref (mRO + 3 + 2 * c + 1)), some (.int x), some (.int (zi 0)), some (.int (zlen c))]) (st' := [.int (zi 0), .int (zi 0)]) (h' := mk s) 2 rfl ?_
        refine Ev.call (M' := mm264) (v := some (.int (zi 0))) (h' := mk s) rfl rfl rfl (Nat.le_of_ble_eq_true rfl) kmax0 ?_
        refine Ev.run (pc' := 17) (ls' := [some (.ref (mRO + 3 + 2 * c + 1)), some (.int x), some (.int (zi 0)), some (.int (zlen c))]) (st' := [.ref (mRO + 3 + 2 * c + 1), .int (zlen c)]) (h' := mk s) 3 rfl ?_
        refine Ev.step (pc' := 18) rfl (alenm_ok (mget_litb hc)) ?_
        rw [hof]
        refine Ev.call (M' := mm265) (v := some (.int (zlen c))) (h' := mk s) rfl rfl rfl (Nat.le_of_ble_eq_true rfl) kmin0 ?_
        refine Ev.run (pc' := 24) (ls' := [some (.ref (mRO + 3 + 2 * c + 1)), some (.int x), some (.int (zi 0)), some (.int (zlen c))]) (st' := [.int (zlen c), .int (zi 0)]) (h' := mk s) 3 rfl ?_
        refine Ev.icmp_lt (t := 29) rfl rfl (fun _ => ?_) (fun hb2 => ?_)
        · refine Ev.run (pc' := 33) (ls' := [some (.ref (mRO + 3 + 2 * c + 1)), some (.int x), some (.int (zi 0)), some (.int (zlen c))]) (st' := [.int (zlen c), .int (zi 0), .int x, .ref (mRO + 3 + 2 * c + 1)]) (h' := mk s) 4 rfl ?_
          refine Ev.call (M' := mm260) (v := some (.int (zidx c x))) (h' := mk s) rfl rfl rfl (Nat.le_of_ble_eq_true rfl) ?_ ?_
          · refine Ev.run (pc' := 7) (ls' := [some (.ref (mRO + 3 + 2 * c + 1)), some (.int x), some (.int (zi 0)), some (.int (zlen c)), some (.int (zI2B x)), some (.int (zi 0))]) (st' := []) (h' := mk s) 5 rfl ?_
            exact kidxl hc hx (zlenN c) 0 (by omega) _ rfl
          · exact Ev.fin rfl rfl
        · have h0 : zlenN c = 0 := by
            have q2 : ¬ (0 : Int) < (zlenN c : Int) := fun q => hb2 ((zi_lt (a := 0) (b := zlenN c) (by omega) (by omega) (by omega) (by omega)).mpr q)
            omega
          have e : zidx c x = zi (-1) := by
            have e1 : mSB.getD c [] = [] := List.eq_nil_of_length_eq_zero h0
            unfold zidx
            rw [e1]
            rfl
          rw [e]
          refine Ev.run (pc' := 28) (ls' := [some (.ref (mRO + 3 + 2 * c + 1)), some (.int x), some (.int (zi 0)), some (.int (zlen c))]) (st' := [.int (zi (-1))]) (h' := mk s) 1 rfl ?_
          exact Ev.fin rfl rfl
  · have hb := Classical.not_not.mp hb
    by_cases q1 : x < zi 0
    · exact hnone (Or.inl q1)
    · rw [if_neg q1] at hb
      by_cases q2 : x > zi 255
      · exact hnone (Or.inr q2)
      · rw [if_neg q2] at hb
        exact absurd hb (by decide)
theorem kindexof {X : mX} {D c : Nat} {s : zS} {x : Int32} (hc : c < 78) : Ev X (D + 4) mm243 0 [some (.ref (mRO + 3 + 2 * c)), some (.int x)] [] (mk s) (.inl (some (.int (zidx c x))), mk s) := by
  refine Ev.run (pc' := 3) (ls' := [some (.ref (mRO + 3 + 2 * c)), some (.int x)]) (st' := [.int (zi 0), .int x, .ref (mRO + 3 + 2 * c)]) (h' := mk s) 3 rfl ?_
  refine Ev.call (M' := mm244) (as := [.ref (mRO + 3 + 2 * c), .int x, .int (zi 0)]) (rest := []) (v := some (.int (zidx c x))) (h' := mk s) rfl (litcall rfl rfl hc rfl rfl) rfl (Nat.le_of_ble_eq_true rfl) ?_ ?_
  · refine Ev.run (pc' := 1) (ls' := [some (.ref (mRO + 3 + 2 * c)), some (.int x), some (.int (zi 0))]) (st' := [.ref (mRO + 3 + 2 * c)]) (h' := mk s) 1 rfl ?_
    refine Ev.call (M' := mm246) (as := [.ref (mRO + 3 + 2 * c)]) (rest := []) (v := some (.int (zi 1))) (h' := mk s) rfl (litcall rfl rfl hc rfl rfl) rfl (Nat.le_of_ble_eq_true rfl) (klatin hc) ?_
    refine Ev.if_eq (t := 23) rfl rfl (fun hb => absurd hb (by decide)) (fun _ => ?_)
    refine Ev.run (pc' := 8) (ls' := [some (.ref (mRO + 3 + 2 * c)), some (.int x), some (.int (zi 0))]) (st' := [.ref (mRO + 3 + 2 * c)]) (h' := mk s) 1 rfl ?_
    refine Ev.step (pc' := 11) rfl (getfm_ok rfl (mget_lit hc) rfl) ?_
    refine Ev.run (pc' := 14) (ls' := [some (.ref (mRO + 3 + 2 * c)), some (.int x), some (.int (zi 0))]) (st' := [.ref (mRO + 3 + 2 * c), .int (zi 0), .int x, .ref (mRO + 3 + 2 * c + 1)]) (h' := mk s) 3 rfl ?_
    refine Ev.call (M' := mm241) (as := [.ref (mRO + 3 + 2 * c)]) (rest := [.int (zi 0), .int x, .ref (mRO + 3 + 2 * c + 1)]) (v := some (.int (zlen c))) (h' := mk s) rfl (litcall rfl rfl hc rfl rfl) rfl (Nat.le_of_ble_eq_true rfl) (kstrlen1 hc) ?_
    refine Ev.call (M' := mm259) (v := some (.int (zidx c x))) (h' := mk s) rfl rfl rfl (Nat.le_of_ble_eq_true rfl) (kindex4 hc) ?_
    refine Ev.run (pc' := 36) (ls' := [some (.ref (mRO + 3 + 2 * c)), some (.int x), some (.int (zi 0))]) (st' := [.int (zidx c x)]) (h' := mk s) 1 rfl ?_
    exact Ev.fin rfl rfl
  · exact Ev.fin rfl rfl
