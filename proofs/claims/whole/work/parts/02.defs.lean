/-! the small machine: its kinds of data -/
/-- how long an instruction is (the two switches apart) -/
def milen : Instr → Nat
  | .bipush _ => 2 | .sipush _ => 3 | .ldc _ => 2 | .ldc_w _ => 3 | .ldc2_w _ => 3
  | .iload _ => 2 | .lload _ => 2 | .aload _ => 2 | .istore _ => 2 | .lstore _ => 2 | .astore _ => 2
  | .iinc _ _ => 3 | .ifCond _ _ => 3 | .if_icmp _ _ => 3 | .goto _ => 3
  | .getstatic _ => 3 | .getfield _ => 3 | .putfield _ => 3 | .invokevirtual _ => 3 | .invokespecial _ => 3 | .invokestatic _ => 3
  | .new _ => 3 | .newarray _ => 2
  | _ => 1
def misw : Instr → Bool
  | .tableswitch .. => true
  | .lookupswitch .. => true
  | _ => false
/-- a table of instructions says what the bytes say -/
def mok1 (b : ByteArray) (pc : Nat) (i : Instr) : Bool := match decode b pc with
  | .ok (j, n) => decide (j = i) && (misw i || decide (n = milen i))
  | _ => false
def mokc (f : Nat → Option Instr) (b : ByteArray) (n : Nat) : Bool := (List.range n).all fun pc => match f pc with
  | none => true
  | some i => mok1 b pc i
/-- a method: its instructions, its class, its locals, what it answers, its name, its bytes, is it static, its handlers -/
abbrev mM : Type := (Nat → Option Instr) × Nat × Nat × Option FieldType × MethodName × ByteArray × Bool × List (Nat × Nat × Nat × Nat)
theorem mok1_spec {b : ByteArray} {pc : Nat} {i : Instr} (h : mok1 b pc i = true) : ∃ n, decode b pc = .ok (i, n) ∧ (misw i = true ∨ n = milen i) := by
  unfold mok1 at h
  split at h
  · rename_i j n hd
    simp only [Bool.and_eq_true, Bool.or_eq_true, decide_eq_true_eq] at h
    obtain ⟨rfl, h2⟩ := h
    exact ⟨n, hd, h2⟩
  · cases h
theorem mokc_spec {f : Nat → Option Instr} {b : ByteArray} {n : Nat} (hn : ∀ pc, n ≤ pc → f pc = none) (h : mokc f b n = true) {pc : Nat} {i : Instr} (hi : f pc = some i) : ∃ len, decode b pc = .ok (i, len) ∧ (misw i = true ∨ len = milen i) := by
  rcases Nat.lt_or_ge pc n with hl | hl
  · have h1 := List.all_eq_true.mp h pc (List.mem_range.mpr hl)
    rw [hi] at h1
    exact mok1_spec h1
  · rw [hn pc hl] at hi
    cases hi
/-- the same for a stretch of bytes -/
def mokr (f : Nat → Option Instr) (b : ByteArray) (lo n : Nat) : Bool := (List.range n).all fun d => match f (lo + d) with
  | none => true
  | some i => mok1 b (lo + d) i
theorem mokr_zero (f : Nat → Option Instr) (b : ByteArray) (lo : Nat) : mokr f b lo 0 = true := rfl
theorem mokr_join {f : Nat → Option Instr} {b : ByteArray} {lo m n : Nat} (h1 : mokr f b lo m = true) (h2 : mokr f b (lo + m) n = true) : mokr f b lo (m + n) = true := by
  unfold mokr at h1 h2 ⊢
  rw [List.all_eq_true] at h1 h2 ⊢
  intro d hd
  have hd := List.mem_range.mp hd
  rcases Nat.lt_or_ge d m with hl | hl
  · exact h1 d (List.mem_range.mpr hl)
  · have h3 := h2 (d - m) (List.mem_range.mpr (by omega))
    have e : lo + m + (d - m) = lo + d := by omega
    rw [e] at h3
    exact h3
theorem mokc_of {f : Nat → Option Instr} {b : ByteArray} {n : Nat} (h : mokr f b 0 n = true) : mokc f b n = true := by
  unfold mokr at h
  unfold mokc
  rw [List.all_eq_true] at h ⊢
  intro d hd
  have h3 := h d hd
  have e : 0 + d = d := by omega
  rw [e] at h3
  exact h3
