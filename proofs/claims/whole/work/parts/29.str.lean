/-! String's methods at the literals -/
def zlenN (c : Nat) : Nat := (mSB.getD c []).length
def zlen (c : Nat) : Int32 := zi (zlenN c)
def zbyte (c : Nat) : Nat → Int32 := fun k => (mSB.getD c []).getD k 0
def zchr (c : Nat) (i : Int32) : Int32 := zbyte c i.toNatClampNeg
/-- the first place of x, from j on -/
def zfind (x : Int32) : List Int32 → Int → Int32
  | [], _ => zi (-1)
  | b :: r, j => if b = x then zi j else zfind x r (j + 1)
def zidx (c : Nat) (x : Int32) : Int32 := zfind x (mSB.getD c []) 0
theorem mSB_len : mSB.length = 78 := by decide +kernel
theorem mget_lit {X : mX} {h : mH} {c : Nat} (hc : c < 78) : mget X h (mRO + 3 + 2 * c) = some (.inr (14, [.ref (mRO + 3 + 2 * c + 1), .int (zi 0)])) := by
  unfold mget mro
  rw [if_neg (by omega)]
  have e : mRO + 3 + 2 * c - mRO = 3 + 2 * c := by omega
  rw [e, beq_ne (by omega : 3 + 2 * c ≠ 0), beq_ne (by omega : 3 + 2 * c ≠ 1)]
  have e2 : Nat.blt (3 + 2 * c) 3 = false := by
    cases q : Nat.blt (3 + 2 * c) 3 with
    | false => rfl
    | true => exact absurd (Nat.blt_eq.mp q) (by omega)
  have e3 : (3 + 2 * c - 3) / 2 = c := by omega
  have e4 : (3 + 2 * c - 3) % 2 = 0 := by omega
  have e5 : Nat.blt c mSB.length = true := Nat.blt_eq.mpr (by rw [mSB_len]; exact hc)
  rw [e2, e3, e4, e5, ← Nat.add_assoc mRO 3 (2 * c)]
  rfl
theorem mget_litb {X : mX} {h : mH} {c : Nat} (hc : c < 78) : mget X h (mRO + 3 + 2 * c + 1) = some (.inl (.byte, zlenN c, .inl (zbyte c))) := by
  unfold mget mro
  rw [if_neg (by omega)]
  have e : mRO + 3 + 2 * c + 1 - mRO = 4 + 2 * c := by omega
  rw [e, beq_ne (by omega : 4 + 2 * c ≠ 0), beq_ne (by omega : 4 + 2 * c ≠ 1)]
  have e2 : Nat.blt (4 + 2 * c) 3 = false := by
    cases q : Nat.blt (4 + 2 * c) 3 with
    | false => rfl
    | true => exact absurd (Nat.blt_eq.mp q) (by omega)
  have e3 : (4 + 2 * c - 3) / 2 = c := by omega
  have e4 : (4 + 2 * c - 3) % 2 = 1 := by omega
  have e5 : Nat.blt c mSB.length = true := Nat.blt_eq.mpr (by rw [mSB_len]; exact hc)
  rw [e2, e3, e4, e5]
  rfl
theorem getf_ok {X : mX} {h : mH} {a ci k pc : Nat} {ls : mL} {st : List Value} {fs : List Value} {v : Value} (hg : mget X h a = some (.inr (ci, fs))) (hk : fs[k]? = some v) : mgetf X ci k pc ls (.ref a :: st) h = some (.inl (pc + 3, ls, v :: st, h)) := by
  simp only [mgetf, hg, hk]
  rw [if_pos trivial]
  rfl
theorem alen_ok {X : mX} {h : mH} {a n pc : Nat} {ls : mL} {st : List Value} {f : Nat → Int32} (hg : mget X h a = some (.inl (.byte, n, .inl f))) : malen X pc ls (.ref a :: st) h = some (.inl (pc + 1, ls, .int (Int32.ofNat n) :: st, h)) := by
  simp only [malen, hg]
  rw [if_pos (Or.inr (Or.inl trivial))]
  rfl
theorem callV_ok {X : mX} {h : mH} {a ci k n : Nat} {st : List Value} {fs : List Value} {M' : mM} {r : Option mA} (ha : st[n - 1]? = some (.ref a)) (hg : mget X h a = some (.inr (ci, fs))) (hM : mtab k = some M') (hr : (if ci = M'.2.1 ∧ 1 ≤ n ∧ mSK k = false ∧ mIN k = false then mcall k n st else none) = r) : mcallV X k n st h = r := by
  simp only [mcallV, ha, hg, hM]
  exact hr
theorem litcall {X : mX} {M M' : mM} {h : mH} {c k n j pc : Nat} {z : Int} {ls : mL} {st : List Value} {r : Option mA} (hl : mlk M.2.1 j = (1, k, n, z)) (ha : st[n - 1]? = some (.ref (mRO + 3 + 2 * c))) (hc : c < 78) (hM : mtab k = some M') (hr : (if 14 = M'.2.1 ∧ 1 ≤ n ∧ mSK k = false ∧ mIN k = false then mcall k n st else none) = r) : mact X M (.invokevirtual j) pc ls st h = r := by
  have e0 : mact X M (.invokevirtual j) pc ls st h = (match mlk M.2.1 j with
    | (1, k, n, _) => mcallV X k n st h
    | _ => none) := rfl
  rw [e0, hl]
  exact callV_ok ha (mget_lit hc) hM hr
theorem lits_le : ∀ c, c < 78 → zlenN c < 1000 := by decide +kernel
theorem litb_ok : ∀ c, c < 78 → ∀ k, k < 150 → (0 ≤ (zbyte c k).toInt ∧ (zbyte c k).toInt < 128) := by decide +kernel
theorem kstrlen {X : mX} {D c : Nat} {s : zS} (hc : c < 78) : Ev X (D + 4) mm241 0 [some (.ref (mRO + 3 + 2 * c))] [] (mk s) (.inl (some (.int (zlen c))), mk s) := by
  sorry
theorem kcharat {X : mX} {D c : Nat} {s : zS} {i : Int32} (hc : c < 78) (hx : mIx i (zlenN c)) : Ev X (D + 4) mm242 0 [some (.ref (mRO + 3 + 2 * c)), some (.int i)] [] (mk s) (.inl (some (.int (zchr c i))), mk s) := by
  sorry
theorem kindexof {X : mX} {D c : Nat} {s : zS} {x : Int32} (hc : c < 78) : Ev X (D + 4) mm243 0 [some (.ref (mRO + 3 + 2 * c)), some (.int x)] [] (mk s) (.inl (some (.int (zidx c x))), mk s) := by
  sorry
