/-! days and years -/
theorem xor_ge {a b : Int} (h1 : -9223372036854775808 ≤ a) (h2 : a < 9223372036854775808) (h3 : 0 < b) (h4 : b < 9223372036854775808) : (zl a ^^^ zl b ≥ zl 0) ↔ 0 ≤ a := by
  have e0 : (zl 0).toInt = 0 := by decide
  have ea := zl_toInt h1 h2
  have eb := zl_toInt (a := b) (by omega) h4
  have hm : ∀ x : Int64, x.toBitVec.msb = decide (x.toInt < 0) := fun x => BitVec.msb_eq_toInt ..
  have hx : (zl a ^^^ zl b).toBitVec.msb = (decide (a < 0)) := by
    rw [Int64.toBitVec_xor, BitVec.msb_xor, hm, hm, ea, eb, decide_eq_false (show ¬ b < 0 by omega), Bool.xor_false]
  have hc := hm (zl a ^^^ zl b)
  rw [hx] at hc
  rw [ge_iff_le, Int64.le_iff_toInt_le, e0]
  have := decide_eq_decide.mp hc
  omega
theorem f261_eq {a b : Int} (h1 : -9223372036854775808 ≤ a) (h2 : a < 9223372036854775808) (h3 : 0 < b) (h4 : b < 9223372036854775808) (s : zS) : f261 (zl a) (zl b) s = some (zl (a / b), s) := by
  have hq := Int.tdiv_eq_ediv (a := a) (b := b)
  unfold f261
  rw [if_pos (zlne (by omega)), zl_div h1 h2 (by omega) h4]
  have hsb : Int.sign b = 1 := Int.sign_eq_one_of_pos h3
  by_cases q : 0 ≤ a
  · rw [if_pos ((xor_ge h1 h2 h3 h4).mpr q), hq, if_pos (Or.inl q), Int.add_zero]
  · rw [if_neg (fun h => q ((xor_ge h1 h2 h3 h4).mp h)), zl_mul, zl_sub]
    by_cases d : b ∣ a
    · rw [if_pos (Or.inr d), Int.add_zero] at hq
      rw [hq, Int.ediv_mul_cancel d, if_pos rfl]
    · rw [if_neg (fun h => h.elim q d), hsb] at hq
      have hne : ¬ a.tdiv b * b = a := fun e => d ⟨a.tdiv b, by rw [Int.mul_comm]; exact e.symm⟩
      have hm := Int.tdiv_mul_le a (b := b)
      have hr1 : -9223372036854775808 ≤ a.tdiv b * b ∧ a.tdiv b * b < 9223372036854775808 := by
        have e1 := Int.tmod_def a b
        have e2 := Int.tmod_eq_emod (a := a) (b := b)
        rw [if_neg (fun h => h.elim q d)] at e2
        have e3 := Int.emod_nonneg a (show b ≠ 0 by omega)
        have e4 := Int.emod_lt_of_pos a h3
        rw [Int.mul_comm b] at e1
        omega
      rw [if_neg (zlne ⟨hne, hr1.1, hr1.2, h1, h2⟩), hq]
      congr 3
      omega
theorem f262_eq {a b : Int} (h1 : -9223372036854775808 ≤ a) (h2 : a < 9223372036854775808) (h3 : 0 < b) (h4 : b < 9223372036854775808) (s : zS) : f262 (zl a) (zl b) s = some (zl (a % b), s) := by
  have hq := Int.tmod_eq_emod (a := a) (b := b)
  have e3 := Int.emod_nonneg a (show b ≠ 0 by omega)
  have e4 := Int.emod_lt_of_pos a h3
  unfold f262
  rw [if_pos (zlne (by omega)), zl_rem h1 h2 (by omega) h4]
  by_cases q : 0 ≤ a
  · have hq' : a.tmod b = a % b := by
      rw [hq, if_pos (Or.inl q)]
      exact Int.sub_zero _
    rw [if_pos ((xor_ge h1 h2 h3 h4).mpr q), hq']
  · rw [if_neg (fun h => q ((xor_ge h1 h2 h3 h4).mp h)), zl_add]
    by_cases d : b ∣ a
    · have e5 := Int.emod_eq_zero_of_dvd d
      have hq' : a.tmod b = a % b := by
        rw [hq, if_pos (Or.inr d)]
        exact Int.sub_zero _
      rw [hq', e5, if_pos rfl]
    · rw [if_neg (fun h => h.elim q d)] at hq
      have e6 : ¬ a % b = 0 := fun e => d (Int.dvd_of_emod_eq_zero e)
      rw [hq, if_neg (zlne (by omega))]
      congr 3
      omega
theorem zdvI {a b : Int} (h0 : 0 ≤ a) (h1 : a < 2147483648) (h2 : 0 < b) (h3 : b < 2147483648) : zi a / zi b = zi (a / b) := by
  rw [zi_div (by omega) h1 (by omega) h3, Int.tdiv_eq_ediv_of_nonneg h0]
theorem zrmI {a b : Int} (h0 : 0 ≤ a) (h1 : a < 2147483648) (h2 : 0 < b) (h3 : b < 2147483648) : zrem (zi a) (zi b) = zi (a % b) := by
  rw [zi_rem (by omega) h1 (by omega) h3, Int.tmod_eq_emod_of_nonneg h0]
def lp (y : Int) : Int := if y % 4 = 0 ∧ (¬ y % 100 = 0 ∨ y % 400 = 0) then 1 else 0
theorem lp01 (y : Int) : lp y = 0 ∨ lp y = 1 := b01
theorem trem0 {y b : Int} (h1 : -9223372036854775808 ≤ y) (h2 : y < 9223372036854775808) (h3 : 0 < b) (h4 : b < 9223372036854775808) : zremL (zl y) (zl b) = zl 0 ↔ y % b = 0 := by
  have e3 := Int.emod_nonneg y (show b ≠ 0 by omega)
  have e4 := Int.emod_lt_of_pos y h3
  have hq := Int.tmod_eq_emod (a := y) (b := b)
  have hr : -9223372036854775808 ≤ y.tmod b ∧ y.tmod b < 9223372036854775808 := by
    rw [hq]
    split <;> omega
  rw [zl_rem h1 h2 (by omega) h4, zl_eq hr.1 hr.2 (by omega) (by omega), ← Int.dvd_iff_tmod_eq_zero, ← Int.dvd_iff_emod_eq_zero]
theorem leap_eq {y : Int} (h1 : -9223372036854775808 ≤ y) (h2 : y < 9223372036854775808) : (if ¬ (zremL (zl y) (zl 4)) = (zl 0) then zi 0 else if ¬ (zremL (zl y) (zl 100)) = (zl 0) then zi 1 else if ¬ (zremL (zl y) (zl 400)) = (zl 0) then zi 0 else zi 1) = zi (lp y) := by
  have t4 := trem0 (b := 4) h1 h2 (by omega) (by omega)
  have t100 := trem0 (b := 100) h1 h2 (by omega) (by omega)
  have t400 := trem0 (b := 400) h1 h2 (by omega) (by omega)
  unfold lp
  by_cases q4 : y % 4 = 0
  · rw [if_neg (not_not_intro (t4.mpr q4))]
    by_cases q100 : y % 100 = 0
    · rw [if_neg (not_not_intro (t100.mpr q100))]
      by_cases q400 : y % 400 = 0
      · rw [if_neg (not_not_intro (t400.mpr q400)), if_pos ⟨q4, .inr q400⟩]
      · rw [if_pos (fun h => q400 (t400.mp h)), if_neg (fun h => h.2.elim (fun h => h q100) q400)]
    · rw [if_pos (fun h => q100 (t100.mp h)), if_pos ⟨q4, .inl q100⟩]
  · rw [if_pos (fun h => q4 (t4.mp h)), if_neg (fun h => q4 h.1)]
/-- days before the first of January of the year y, from 1970 on -/
def dY (y : Int) : Int := 365 * (y - 1) + (y - 1) / 4 - (y - 1) / 100 + (y - 1) / 400 - 719162
theorem dY_succ (y : Int) : dY (y + 1) = dY y + 365 + lp y := by
  unfold dY lp
  split <;> omega
theorem dY_400 (k : Int) : dY (1970 + 400 * k) = 146097 * k := by
  unfold dY
  omega
theorem dY_mono : ∀ (n : Nat) (y : Int), dY y + 365 * n ≤ dY (y + n) := by
  intro n
  induction n with
  | zero =>
    intro y
    have e : y + ((0 : Nat) : Int) = y := by omega
    rw [e]
    omega
  | succ n ih =>
    intro y
    have h1 := ih y
    have h2 := dY_succ (y + n)
    have h3 := lp01 (y + n)
    have e : y + ((n + 1 : Nat) : Int) = y + n + 1 := by omega
    rw [e]
    omega
/-- a day of a year: unique -/
theorem dY_uniq {y z d e : Int} (h1 : 0 ≤ d) (h2 : d < 365 + lp y) (h3 : 0 ≤ e) (h4 : e < 365 + lp z) (h : dY y + d = dY z + e) : y = z ∧ d = e := by
  have aux : ∀ {y z d e : Int}, 0 ≤ d → d < 365 + lp y → 0 ≤ e → dY y + d = dY z + e → ¬ y < z := by
    intro y z d e h1 h2 h3 h hlt
    have g1 := dY_succ y
    have g2 := dY_mono (z - (y + 1)).toNat (y + 1)
    have e1 : y + 1 + ((z - (y + 1)).toNat : Int) = z := by omega
    rw [e1] at g2
    omega
  have a1 := aux h1 h2 h3 h
  have a2 := aux h3 h4 h1 h.symm
  have hyz : y = z := by omega
  subst hyz
  exact ⟨rfl, by omega⟩
/-! the class's way from days to years -/
def gN (L : Nat) : Nat := L - L / 1460 + L / 36524 - L / 146096
def bN (y : Nat) : Nat := 365 * y + y / 4 - y / 100 + y / 400
theorem gN_step {L : Nat} (h : L < 146096) : gN L ≤ gN (L + 1) := by
  unfold gN
  omega
theorem gN_mono : ∀ (d L : Nat), L + d < 146097 → gN L ≤ gN (L + d) := by
  intro d
  induction d with
  | zero => intro L _; exact Nat.le_refl _
  | succ d ih =>
    intro L h
    have h1 := ih L (by omega)
    have h2 := gN_step (L := L + d) (by omega)
    exact Nat.le_trans h1 h2
theorem bN_edges : ∀ y, y < 400 → gN (bN y) / 365 = y ∧ gN (bN (y + 1) - 1) / 365 = y ∧ bN y < bN (y + 1) ∧ bN (y + 1) ≤ 146097 := by decide +kernel
theorem bN_find {L : Nat} : ∀ n, n ≤ 400 → L < bN n → ∃ y, y < n ∧ bN y ≤ L ∧ L < bN (y + 1) := by
  intro n
  induction n with
  | zero => intro _ h; exact absurd h (Nat.not_lt_zero _)
  | succ n ih =>
    intro hn h
    by_cases q : L < bN n
    · obtain ⟨y, h1, h2⟩ := ih (by omega) q
      exact ⟨y, by omega, h2⟩
    · exact ⟨n, by omega, by omega, h⟩
theorem march {L : Nat} (h : L < 146097) : ∃ y, y < 400 ∧ gN L / 365 = y ∧ bN y ≤ L ∧ L < bN (y + 1) := by
  obtain ⟨y, h1, h2, h3⟩ := bN_find (L := L) 400 (Nat.le_refl _) (by have : bN 400 = 146097 := by decide
                                                                     omega)
  obtain ⟨e1, e2, e3, e4⟩ := bN_edges y h1
  refine ⟨y, h1, ?_, h2, h3⟩
  have m1 := gN_mono (L - bN y) (bN y) (by omega)
  have m2 := gN_mono (bN (y + 1) - 1 - L) L (by omega)
  rw [show bN y + (L - bN y) = L by omega] at m1
  rw [show L + (bN (y + 1) - 1 - L) = bN (y + 1) - 1 by omega] at m2
  have d1 := Nat.div_le_div_right (c := 365) m1
  have d2 := Nat.div_le_div_right (c := 365) m2
  omega
/-! months -/
def mdl (l m : Nat) : Nat := if m = 1 then 28 + l else if m = 3 ∨ m = 5 ∨ m = 8 ∨ m = 10 then 30 else 31
def cum (l : Nat) : Nat → Nat
  | 0 => 0
  | m + 1 => cum l m + mdl l m
def mpN (d : Nat) : Nat := (5 * d + 2) / 153
def moN (d : Nat) : Nat := (153 * mpN d + 2) / 5
def chkA (d l : Nat) : Bool := decide (mpN d < 10) && (decide (cum l (mpN d + 2) + (d - moN d) = d + 59 + l) && (decide (moN d ≤ d) && decide (d - moN d < mdl l (mpN d + 2))))
def chkB (d l : Nat) : Bool := decide (10 ≤ mpN d) && (decide (mpN d ≤ 11) && (decide (cum l (mpN d - 10) + (d - moN d) = d - 306) && (decide (moN d ≤ d) && (decide (d - moN d < mdl l (mpN d - 10)) || (decide (d = 365) && decide (l = 0))))))
theorem chkA_all : (List.range 306).all (fun d => chkA d 0 && chkA d 1) = true := by decide +kernel
theorem chkB_all : (List.range 60).all (fun i => chkB (306 + i) 0 && chkB (306 + i) 1) = true := by decide +kernel
theorem month_A {d l : Nat} (h : d < 306) (hl : l < 2) : mpN d < 10 ∧ cum l (mpN d + 2) + (d - moN d) = d + 59 + l ∧ moN d ≤ d ∧ d - moN d < mdl l (mpN d + 2) := by
  have h1 := List.all_eq_true.mp chkA_all d (List.mem_range.mpr h)
  rw [Bool.and_eq_true] at h1
  have h2 : chkA d l = true := by
    have : l = 0 ∨ l = 1 := by omega
    rcases this with rfl | rfl
    · exact h1.1
    · exact h1.2
  unfold chkA at h2
  simp only [Bool.and_eq_true, decide_eq_true_eq] at h2
  exact h2
theorem month_B {d l : Nat} (h : 306 ≤ d) (h' : d < 366) (hl : l < 2) : 10 ≤ mpN d ∧ mpN d ≤ 11 ∧ cum l (mpN d - 10) + (d - moN d) = d - 306 ∧ moN d ≤ d ∧ (d - moN d < mdl l (mpN d - 10) ∨ (d = 365 ∧ l = 0)) := by
  have h1 := List.all_eq_true.mp chkB_all (d - 306) (List.mem_range.mpr (by omega))
  rw [Bool.and_eq_true, show 306 + (d - 306) = d by omega] at h1
  have h2 : chkB d l = true := by
    have : l = 0 ∨ l = 1 := by omega
    rcases this with rfl | rfl
    · exact h1.1
    · exact h1.2
  unfold chkB at h2
  simp only [Bool.and_eq_true, Bool.or_eq_true, decide_eq_true_eq] at h2
  exact h2
theorem cum_uniq {l m n a b : Nat} (h1 : a < mdl l m) (h2 : b < mdl l n) (h : cum l m + a = cum l n + b) : m = n ∧ a = b := by
  have mono : ∀ d m, cum l m ≤ cum l (m + d) := by
    intro d
    induction d with
    | zero => intro m; exact Nat.le_refl _
    | succ d ih =>
      intro m
      have := ih m
      show _ ≤ cum l (m + d) + mdl l (m + d)
      omega
  have aux : ∀ {m n a b : Nat}, a < mdl l m → cum l m + a = cum l n + b → ¬ m < n := by
    intro m n a b h1 h hlt
    have g := mono (n - (m + 1)) (m + 1)
    rw [show m + 1 + (n - (m + 1)) = n by omega] at g
    have e : cum l (m + 1) = cum l m + mdl l m := rfl
    omega
  have a1 := aux h1 h
  have a2 := aux h2 h.symm
  have : m = n := by omega
  subst this
  exact ⟨rfl, by omega⟩
