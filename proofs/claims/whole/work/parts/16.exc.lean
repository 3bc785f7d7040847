/-! the exceptions' words; printed by wip/gen/gen4.py -/
/-- words that stay true as the tables grow warmer -/
def mgw : Cond → Bool
  | .declares _ => true
  | .castable _ _ => true
  | .laysStatic _ _ _ => true
  | w => goodWord w
theorem mls_warm {s0 s : State} {A args : Array Value} {O f d : String} (hW : s0.WarmedH s.vm) (hlow : ∀ q, q < s0.heap.size → s.heap[q]? = s0.heap[q]?) (h : (Cond.laysStatic O f d).before A s0 = true) : (Cond.laysStatic O f d).before args s = true := by
  have h1 : (Cond.laysStatic O f d).before A (s0.setVm s.vm) = true := Cond.holds_shifted (State.Shifted.of_warmed hW) _ [] rfl h
  obtain ⟨c, k, i, fd, a, cell, hc, hf, hst, hsta, hcell, hiss, hcls, hlt, hty⟩ := Cond.laysStatic_spec h1
  have hc' : s.vm.findClass O = some c := hc
  have hf' : s.fieldFound? O f d = some (c, k, i, fd) := hf
  have hcell0 : s0.heap[a]? = some cell := hcell
  have hcell' : s.heap[a]? = some cell := by rw [hlow a (Array.getElem?_eq_some_iff.mp hcell0).1]; exact hcell0
  simp [Cond.before, Cond.holds, Cond.value, hc', hf', hst, hsta, hcell', hiss, hcls, hlt, hty]
/-- a static that holds a reference or null -/
theorem misRef {s0 s : State} {A : Nat → Prop} {args : Array Value} {O f d : String} (hW : s0.WarmedH s.vm) (hlow : ∀ q, q < s0.heap.size → s.heap[q]? = s0.heap[q]?) (h : va_Zq O f d A s0 s0.heap) : (Cond.isRef (.static O f d)).before args s = true := by
  have key : ∀ v : Value, va_Z O f d v A s0 s0.heap → (Term.static O f d).eval args s none [] s = some v := by
    intro v hv
    obtain ⟨cf, kf, fi, fd, a, cell, h1, h2, h3, h4, h5, h6, h7, h8⟩ := va_Z.moved hW.alike hv
    have hcell' : s.heap[a]? = some cell := by rw [hlow a (Array.getElem?_eq_some_iff.mp h5).1]; exact h5
    simp [Term.eval, State.fieldNamed?, h1, h2, h4, hcell', h6, h7]
  rcases h with h | ⟨t, h⟩
  · simp only [Cond.before, Cond.holds, Cond.value, key _ h]
    rfl
  · simp only [Cond.before, Cond.holds, Cond.value, key _ h]
    rfl
theorem mword2 {s0 s : State} {A args : Array Value} (hW : s0.WarmedH s.vm) (hlow : ∀ q, q < s0.heap.size → s.heap[q]? = s0.heap[q]?) {w : Cond} (hw : mgw w = true) (h : w.before A s0 = true) : w.before args s = true := by
  cases w
  case declares x => exact va_Nw.use rfl (va_Nw.warmD hW (va_Nw.of rfl h))
  case castable C T => exact va_Nw.use rfl (va_Nw.warmC hW (va_Nw.of rfl h))
  case laysStatic O f d => exact mls_warm hW hlow h
  all_goals exact word_at hW (good_of_word hw) h
def meB (x : Nat) : ByteArray := bif Nat.beq x 3 then ⟨#[0x2a, 0x2b, 0xb7, 0x00, 0x0d, 0xb1]⟩ else ⟨#[0x2a, 0x2b, 0xb7, 0x00, 0x07, 0xb1]⟩
def meI (x : Nat) : Nat := bif Nat.beq x 3 then 13 else 7
def mez (x : Nat) (ps : List (Nat × Nat)) : Bool := decide ((mea (mEX x) (meI x) (meB x)).length = ps.length) && ((mea (mEX x) (meI x) (meB x)).zip ps).all (fun q => mgw q.1 && memN q.2 q.1) && Bundle.fit (mEX x)
theorem mez_spec {x : Nat} {ps : List (Nat × Nat)} (h : mez x ps = true) : Bundle.fit (mEX x) = true ∧ ∀ w ∈ mea (mEX x) (meI x) (meB x), mgw w = true ∧ w ∈ lw_tbl := by
  simp only [mez, Bool.and_eq_true, decide_eq_true_eq] at h
  obtain ⟨⟨h1, h2⟩, h3⟩ := h
  refine ⟨h3, fun w hw => ?_⟩
  obtain ⟨k, hk, rfl⟩ := List.mem_iff_getElem.mp hw
  have hk2 : k < ps.length := by omega
  have hz : ((mea (mEX x) (meI x) (meB x))[k], ps[k]) ∈ (mea (mEX x) (meI x) (meB x)).zip ps := List.mem_iff_getElem.mpr ⟨k, by simp [List.length_zip]; omega, by simp⟩
  have := List.all_eq_true.mp h2 _ hz
  simp only [Bool.and_eq_true] at this
  exact ⟨this.1, memN_spec this.2⟩
set_option maxRecDepth 100000 in
theorem mez0 : mez 0 [(1, 15), (2, 186), (2, 195), (2, 200), (2, 203), (2, 205), (2, 187), (2, 188), (1, 37), (1, 38), (2, 189), (2, 194), (2, 201), (2, 221), (2, 176), (2, 222), (2, 178), (2, 223), (2, 180), (2, 190), (2, 191), (2, 192), (2, 193), (2, 182), (2, 217), (2, 218), (2, 220), (2, 182), (2, 208), (2, 209), (2, 210), (2, 211), (2, 168), (2, 211), (2, 212), (2, 213), (2, 214), (2, 170), (2, 214), (2, 215), (2, 216), (2, 217), (2, 172), (2, 165), (2, 173), (2, 174), (2, 175), (2, 177), (2, 179), (2, 181), (2, 185), (2, 184), (2, 183)] = true := by decide +kernel
set_option maxRecDepth 100000 in
theorem mez1 : mez 1 [(1, 15), (2, 186), (2, 195), (2, 200), (2, 203), (2, 205), (2, 187), (2, 188), (1, 37), (1, 38), (2, 189), (2, 194), (2, 201), (2, 221), (2, 176), (2, 222), (2, 178), (2, 223), (2, 180), (2, 190), (2, 191), (2, 192), (2, 193), (2, 182), (2, 217), (2, 218), (2, 220), (2, 182), (3, 177), (3, 178), (3, 179), (2, 211), (2, 168), (2, 211), (2, 212), (2, 213), (2, 214), (2, 170), (2, 214), (2, 215), (2, 216), (2, 217), (2, 172), (3, 167), (3, 169), (2, 198), (3, 170), (3, 171), (3, 172), (3, 173), (2, 185), (2, 184), (3, 174)] = true := by decide +kernel
set_option maxRecDepth 100000 in
theorem mez2 : mez 2 [(1, 15), (2, 186), (2, 195), (2, 200), (2, 203), (2, 205), (2, 187), (2, 188), (1, 37), (1, 38), (2, 189), (2, 194), (2, 201), (2, 221), (2, 176), (2, 222), (2, 178), (2, 223), (2, 180), (2, 190), (2, 191), (2, 192), (2, 193), (2, 182), (2, 217), (2, 218), (2, 220), (2, 182), (3, 216), (3, 217), (3, 218), (2, 211), (2, 168), (2, 211), (2, 212), (2, 213), (2, 214), (2, 170), (2, 214), (2, 215), (2, 216), (2, 217), (2, 172), (3, 206), (3, 208), (2, 197), (3, 209), (3, 210), (3, 211), (3, 212), (2, 185), (2, 184), (3, 213)] = true := by decide +kernel
set_option maxRecDepth 100000 in
theorem mez3 : mez 3 [(1, 15), (2, 186), (2, 195), (2, 200), (2, 203), (2, 205), (2, 187), (2, 188), (1, 37), (1, 38), (2, 189), (2, 194), (2, 201), (2, 221), (2, 176), (2, 222), (2, 178), (2, 223), (2, 180), (2, 190), (2, 191), (2, 192), (2, 193), (2, 182), (2, 217), (2, 218), (2, 220), (2, 182), (4, 31), (4, 32), (4, 33), (2, 211), (2, 168), (2, 211), (2, 212), (2, 213), (2, 214), (2, 170), (2, 214), (2, 215), (2, 216), (2, 217), (2, 172), (4, 21), (4, 23), (2, 199), (4, 24), (4, 25), (4, 26), (4, 27), (2, 185), (2, 184), (4, 28)] = true := by decide +kernel
theorem mez_all {x : Nat} (h : x < 4) : Bundle.fit (mEX x) = true ∧ (∀ w ∈ mea (mEX x) (meI x) (meB x), mgw w = true ∧ w ∈ lw_tbl) ∧ decode (meB x) 0 = .ok (.aload_n 0, 1) ∧ decode (meB x) 1 = .ok (.aload_n 1, 1) ∧ decode (meB x) 2 = .ok (.invokespecial (meI x), 3) ∧ decode (meB x) 5 = .ok (.return_, 1) := by
  match x, h with
  | 0, _ => exact ⟨(mez_spec mez0).1, (mez_spec mez0).2, by decide +kernel, by decide +kernel, by decide +kernel, by decide +kernel⟩
  | 1, _ => exact ⟨(mez_spec mez1).1, (mez_spec mez1).2, by decide +kernel, by decide +kernel, by decide +kernel, by decide +kernel⟩
  | 2, _ => exact ⟨(mez_spec mez2).1, (mez_spec mez2).2, by decide +kernel, by decide +kernel, by decide +kernel, by decide +kernel⟩
  | 3, _ => exact ⟨(mez_spec mez3).1, (mez_spec mez3).2, by decide +kernel, by decide +kernel, by decide +kernel, by decide +kernel⟩
  | x + 4, h => exact absurd h (by omega)
def mey (x : Nat) (q r : Nat × Nat) : Bool := mem q (.initialized (mEX x)) && memN r (.castable (mEX x) (mEX x))
theorem mey0 : mey 0 (1, 18) (2, 166) = true := by decide +kernel
theorem mey1 : mey 1 (1, 26) (3, 168) = true := by decide +kernel
theorem mey2 : mey 2 (1, 27) (3, 207) = true := by decide +kernel
theorem mey3 : mey 3 (1, 28) (4, 22) = true := by decide +kernel
theorem mey_all {x : Nat} (h : x < 4) : (Cond.initialized (mEX x) ∈ lw_tbl ∧ goodWord (.initialized (mEX x)) = true) ∧ Cond.castable (mEX x) (mEX x) ∈ lw_tbl := by
  have key : ∀ x q r, mey x q r = true → (Cond.initialized (mEX x) ∈ lw_tbl ∧ goodWord (.initialized (mEX x)) = true) ∧ Cond.castable (mEX x) (mEX x) ∈ lw_tbl := by
    intro x q r hz
    simp only [mey, Bool.and_eq_true] at hz
    exact ⟨mem_spec hz.1, memN_spec hz.2⟩
  match x, h with
  | 0, _ => exact key _ _ _ mey0
  | 1, _ => exact key _ _ _ mey1
  | 2, _ => exact key _ _ _ mey2
  | 3, _ => exact key _ _ _ mey3
  | x + 4, h => exact absurd h (by omega)
