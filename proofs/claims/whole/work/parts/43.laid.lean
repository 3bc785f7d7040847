/-! the reference's laid: sign, zeros, body with commas -/
def dgt (v : Int) : Prop := 48 ≤ v ∧ v ≤ 57
/-- digits with commas between -/
def cmD : List Int → List Int
  | [] => []
  | x :: r => x :: (if 0 < r.length ∧ r.length % 3 = 0 then 44 :: cmD r else cmD r)
theorem cmD_len : ∀ (D : List Int), (cmD D).length = D.length + (D.length - 1) / 3
  | [] => rfl
  | x :: r => by
    have ih := cmD_len r
    show (x :: (if 0 < r.length ∧ r.length % 3 = 0 then 44 :: cmD r else cmD r)).length = (r.length + 1) + (r.length + 1 - 1) / 3
    rw [List.length_cons]
    by_cases q : 0 < r.length ∧ r.length % 3 = 0
    · rw [if_pos q, List.length_cons, ih]
      omega
    · rw [if_neg q, ih]
      omega
theorem cmD_ds (N : Nat) : ∀ k, cmD (ds N k) = dsC 1 N k
  | 0 => rfl
  | k + 1 => by
    show _ :: (if 0 < (ds N k).length ∧ (ds N k).length % 3 = 0 then 44 :: cmD (ds N k) else cmD (ds N k)) = _ :: (if (1 : Int) = 1 ∧ 0 < k ∧ k % 3 = 0 then 44 :: dsC 1 N k else dsC 1 N k)
    rw [ds_len, cmD_ds N k]
    by_cases q : 0 < k ∧ k % 3 = 0
    · rw [if_pos q, if_pos ⟨rfl, q⟩]
    · rw [if_neg q, if_neg (fun h => q h.2)]
/-- a flag is there -/
abbrev hasF (F : Int32) (m : Int) : Prop := ¬ (F &&& zi m) = zi 0
theorem r180_0 {F : Int32} {m : Int} {s : zS} (h : ¬ hasF F m) : r180 F (zi m) s = zi 0 := if_pos (Classical.not_not.mp h)
theorem r180_1 {F : Int32} {m : Int} {s : zS} (h : hasF F m) : r180 F (zi m) s = zi 1 := if_neg h
def sgnL (F : Int32) (m : Int) : List Int := if m = 1 then (if hasF F 64 then [40] else [45]) else if hasF F 4 then [43] else if hasF F 8 then [32] else []
def clsL (F : Int32) (m : Int) : List Int := if m = 1 ∧ hasF F 64 then [41] else []
theorem sgnL_len (F : Int32) (m : Int) : (sgnL F m).length ≤ 1 := by
  unfold sgnL
  repeat' split
  all_goals exact (by decide)
theorem clsL_len (F : Int32) (m : Int) : (clsL F m).length ≤ 1 := by
  unfold clsL
  split <;> exact (by decide)
def hxL (h : Int) : List Int := if h = 1 then [48, 120] else []
def bodL (F : Int32) (zr : Int) (D T : List Int) : List Int := (if hasF F 32 ∧ zr = 1 then cmD D else D) ++ T
def laidA (F : Int32) (m h : Int) : List Int := sgnL F m ++ hxL h
def laidB (F : Int32) (m zr : Int) (D T : List Int) : List Int := bodL F zr D T ++ clsL F m
def laidZ (F : Int32) (W zr : Int) (n : Nat) : List Int := if hasF F 16 ∧ zr = 1 then List.replicate (W - n).toNat 48 else []
def laidL (F : Int32) (W m h zr : Int) (D T : List Int) : List Int := laidA F m h ++ (laidZ F W zr (laidA F m h ++ laidB F m zr D T).length ++ laidB F m zr D T)
theorem lit66 : lit 66 = [48, 120] := by decide +kernel
/-- the body, put -/
theorem f182_282_loop {D T : List Int} (hD : ∀ v, v ∈ D → dgt v) (hT : byt T) {cm cl : Int} (hcm : cm = 0 ∨ cm = 1) (hcl : cl = 0 ∨ cl = 1) (hlen : D.length + T.length ≤ 5000) : ∀ (d k n : Nat) (s : zS) (l : List Int) (w : Int), d + k = D.length + T.length → d < n → BD s (D ++ T) → MD s l w → l.length + 2 * d + 1 ≤ 12000 →
    ∃ s', f182_282 n (zi D.length) (zi cm) (zi cl) (zi k) s = some s' ∧ MD s' (l ++ ((if cm = 1 then cmD (D.drop k) else D.drop k) ++ T.drop (k - D.length) ++ (if cl = 1 then [41] else []))) (w + ((if cm = 1 then cmD (D.drop k) else D.drop k) ++ T.drop (k - D.length) ++ (if cl = 1 then [41] else [])).length) ∧ fr [39] [30, 31] s s' := by
  intro d
  induction d with
  | zero =>
    intro k n s l w hd hn hB hM hl
    obtain ⟨n, rfl⟩ : ∃ k, n = k + 1 := ⟨n - 1, by omega⟩
    have e1 : D.drop k = [] := List.drop_eq_nil_of_le (by omega)
    have e2 : T.drop (k - D.length) = [] := List.drop_eq_nil_of_le (by omega)
    have e3 : (if cm = 1 then cmD ([] : List Int) else []) = [] := by split <;> rfl
    rw [e1, e2, e3, List.nil_append, List.nil_append]
    have e0 : f182_282 (n + 1) (zi D.length) (zi cm) (zi cl) (zi k) s = b182_282 (f182_282 n) (zi D.length) (zi cm) (zi cl) (zi k) s := rfl
    rw [e0]
    unfold b182_282
    have hb : s.1 24 33 = zi (D.length + T.length : Nat) := by
      rw [hB.1, List.length_append]
    rw [hb, if_pos (zge (by omega))]
    rcases hcl with rfl | rfl
    · rw [if_pos rfl, if_neg (by decide), List.append_nil]
      have e4 : w + (([] : List Int).length : Nat) = w := by show w + ((0 : Nat) : Int) = w; omega
      rw [e4]
      exact ⟨s, rfl, hM, fr.refl⟩
    · obtain ⟨s1, a1, a2, a3⟩ := hM.add (by omega) (b := 41) (by omega) (by omega)
      rw [if_neg (zne (by omega)), if_pos rfl, a1]
      exact ⟨s1, rfl, a2, a3⟩
  | succ d ih =>
    intro k n s l w hd hn hB hM hl
    obtain ⟨n, rfl⟩ : ∃ k, n = k + 1 := ⟨n - 1, by omega⟩
    have hk : k < (D ++ T).length := by rw [List.length_append]; omega
    have hb : s.1 24 33 = zi (D.length + T.length : Nat) := by
      rw [hB.1, List.length_append]
    have hv : -128 ≤ (D ++ T)[k] ∧ (D ++ T)[k] ≤ 127 := by
      rcases List.mem_append.mp (List.getElem_mem hk) with q | q
      · have := hD _ q
        unfold dgt at this
        omega
      · exact hT _ q
    obtain ⟨s1, a1, a2, a3⟩ := hM.add (by omega) (b := (D ++ T)[k]) hv.1 hv.2
    have hB1 : BD s1 (D ++ T) := by
      unfold BD
      rw [a3.1 24 33 rfl (fun _ => rfl), a3.f (a := 40) rfl (by decide)]
      exact hB
    have hl1 : (l ++ [(D ++ T)[k]]).length = l.length + 1 := by rw [List.length_append]; rfl
    have e0 : f182_282 (n + 1) (zi D.length) (zi cm) (zi cl) (zi k) s = b182_282 (f182_282 n) (zi D.length) (zi cm) (zi cl) (zi k) s := rfl
    rw [e0]
    unfold b182_282
    rw [hb, if_neg (znge (by omega)), if_pos (zi_ix (by omega) (by omega) (by omega)), zi_toNat (by omega), hB.2.get hk, a1, zb0_mk, zi_add, zi_sub, zi_sub]
    by_cases q : k < D.length
    · -- a digit
      have eD : D.drop k = D[k] :: D.drop (k + 1) := List.drop_eq_getElem_cons q
      have eT : k - D.length = k + 1 - D.length := by omega
      have ek : (D ++ T)[k] = D[k] := List.getElem_append_left q
      have erl : (D.drop (k + 1)).length = D.length - (k + 1) := List.length_drop ..
      by_cases c : cm = 1 ∧ 0 < (D.drop (k + 1)).length ∧ (D.drop (k + 1)).length % 3 = 0
      · obtain ⟨c1, c2, c3⟩ := c
        subst c1
        obtain ⟨s2, b1, b2, b3⟩ := a2.add (by omega) (b := 44) (by omega) (by omega)
        have hB2 : BD s2 (D ++ T) := by
          unfold BD
          rw [b3.1 24 33 rfl (fun _ => rfl), b3.f (a := 40) rfl (by decide)]
          exact hB1
        obtain ⟨s', d1, d2, d3⟩ := ih (k + 1) n s2 _ (w + 1 + 1) (by omega) (by omega) hB2 b2 (by rw [List.length_append, hl1]; show l.length + 1 + 1 + 2 * d + 1 ≤ 12000; omega)
        refine ⟨s', ?_, ?_, (a3.trans b3).trans d3⟩
        · have e3 : zrem (zi ((D.length : Int) - 1 - k)) (zi 3) = zi 0 := by
            rw [zi_rem (by omega) (by omega) (by omega) (by omega)]
            have x : (D.length : Int) - 1 - k = ((D.length - (k + 1) : Nat) : Int) := by omega
            have y : (3 : Int) = ((3 : Nat) : Int) := rfl
            rw [x, y, ntmod, ← erl, c3]
            rfl
          rw [if_neg (zne (by omega)), if_neg (znge (by omega)), e3, if_neg (not_not_intro rfl), b1, zb0_mk]
          exact d1
        · rw [if_pos rfl] at d2 ⊢
          have ecm : cmD (D.drop k) = D[k] :: 44 :: cmD (D.drop (k + 1)) := by
            rw [eD]
            show D[k] :: (if 0 < (D.drop (k + 1)).length ∧ (D.drop (k + 1)).length % 3 = 0 then 44 :: cmD (D.drop (k + 1)) else cmD (D.drop (k + 1))) = _
            rw [if_pos ⟨c2, c3⟩]
          rw [ecm, eT]
          rw [ek, List.append_assoc, List.append_assoc] at d2
          have e9 : w + 1 + 1 + ((cmD (D.drop (k + 1)) ++ T.drop (k + 1 - D.length) ++ (if cl = 1 then [41] else [])).length : Nat) = w + ((D[k] :: 44 :: cmD (D.drop (k + 1)) ++ T.drop (k + 1 - D.length) ++ (if cl = 1 then [41] else [])).length : Nat) := by
            simp only [List.cons_append, List.length_cons]
            omega
          rw [e9] at d2
          exact d2
      · obtain ⟨s', d1, d2, d3⟩ := ih (k + 1) n s1 _ (w + 1) (by omega) (by omega) hB1 a2 (by rw [hl1]; omega)
        refine ⟨s', ?_, ?_, a3.trans d3⟩
        · rcases hcm with rfl | rfl
          · rw [if_pos rfl]
            exact d1
          · rw [if_neg (zne (by omega))]
            by_cases z : k + 1 < D.length
            · have e3 : zrem (zi ((D.length : Int) - 1 - k)) (zi 3) = zi (((D.drop (k + 1)).length % 3 : Nat) : Int) := by
                rw [zi_rem (by omega) (by omega) (by omega) (by omega)]
                have x : (D.length : Int) - 1 - k = ((D.length - (k + 1) : Nat) : Int) := by omega
                have y : (3 : Int) = ((3 : Nat) : Int) := rfl
                rw [x, y, ntmod, ← erl]
              have c3 : ¬ (D.drop (k + 1)).length % 3 = 0 := fun h => c ⟨rfl, by omega, h⟩
              rw [if_neg (znge (by omega)), e3, if_pos (zne (by omega))]
              exact d1
            · rw [if_pos (zge (by omega))]
              exact d1
        · have ecm : (if cm = 1 then cmD (D.drop k) else D.drop k) = D[k] :: (if cm = 1 then cmD (D.drop (k + 1)) else D.drop (k + 1)) := by
            rw [eD]
            by_cases z : cm = 1
            · rw [if_pos z, if_pos z]
              show D[k] :: (if 0 < (D.drop (k + 1)).length ∧ (D.drop (k + 1)).length % 3 = 0 then 44 :: cmD (D.drop (k + 1)) else cmD (D.drop (k + 1))) = _
              rw [if_neg (fun h => c ⟨z, h⟩)]
            · rw [if_neg z, if_neg z]
          rw [ecm, eT]
          rw [ek, List.append_assoc] at d2
          have e9 : w + 1 + (((if cm = 1 then cmD (D.drop (k + 1)) else D.drop (k + 1)) ++ T.drop (k + 1 - D.length) ++ (if cl = 1 then [41] else [])).length : Nat) = w + ((D[k] :: (if cm = 1 then cmD (D.drop (k + 1)) else D.drop (k + 1)) ++ T.drop (k + 1 - D.length) ++ (if cl = 1 then [41] else [])).length : Nat) := by
            simp only [List.cons_append, List.length_cons]
            omega
          rw [e9] at d2
          exact d2
    · -- behind the digits
      have eD : D.drop k = [] := List.drop_eq_nil_of_le (by omega)
      have eD1 : D.drop (k + 1) = [] := List.drop_eq_nil_of_le (by omega)
      have hkT : k - D.length < T.length := by omega
      have ek : (D ++ T)[k] = T[k - D.length] := List.getElem_append_right (by omega)
      have eT : T.drop (k - D.length) = T[k - D.length] :: T.drop (k + 1 - D.length) := by
        rw [List.drop_eq_getElem_cons hkT, show k - D.length + 1 = k + 1 - D.length by omega]
      have e3 : (if cm = 1 then cmD ([] : List Int) else []) = [] := by split <;> rfl
      obtain ⟨s', d1, d2, d3⟩ := ih (k + 1) n s1 _ (w + 1) (by omega) (by omega) hB1 a2 (by rw [hl1]; omega)
      refine ⟨s', ?_, ?_, a3.trans d3⟩
      · rcases hcm with rfl | rfl
        · rw [if_pos rfl]
          exact d1
        · rw [if_neg (zne (by omega)), if_pos (zge (by omega))]
          exact d1
      · rw [eD, e3, eT]
        rw [eD1, e3, ek, List.append_assoc] at d2
        have e9 : w + 1 + (([] ++ T.drop (k + 1 - D.length) ++ (if cl = 1 then [41] else [])).length : Nat) = w + (([] ++ T[k - D.length] :: T.drop (k + 1 - D.length) ++ (if cl = 1 then [41] else [])).length : Nat) := by
          simp only [List.nil_append, List.cons_append, List.length_cons]
          omega
        rw [e9] at d2
        exact d2
/-- zeros, then the body -/
theorem f182_258_loop {D T : List Int} (hD : ∀ v, v ∈ D → dgt v) (hT : byt T) {cm cl : Int} (hcm : cm = 0 ∨ cm = 1) (hcl : cl = 0 ∨ cl = 1) (hlen : D.length + T.length ≤ 2000) {W : Int} (hW : -1 ≤ W) (hW2 : W ≤ 2000) : ∀ (d k n : Nat) (s : zS) (l : List Int) (w : Int), d = (W - k).toNat → d < n → k ≤ 6000 → s.1 24 16 = zi W → BD s (D ++ T) → MD s l w → l.length + d ≤ 7000 →
    ∃ s', f182_258 n (zi D.length) (zi cm) (zi cl) (zi k) s = some s' ∧ MD s' (l ++ (List.replicate d 48 ++ ((if cm = 1 then cmD D else D) ++ T ++ (if cl = 1 then [41] else [])))) (w + (List.replicate d 48 ++ ((if cm = 1 then cmD D else D) ++ T ++ (if cl = 1 then [41] else []))).length) ∧ fr [39] [30, 31] s s' := by
  intro d
  induction d with
  | zero =>
    intro k n s l w hd hn hk h16 hB hM hl
    obtain ⟨n, rfl⟩ : ∃ k, n = k + 1 := ⟨n - 1, by omega⟩
    obtain ⟨s', b1, b2, b3⟩ := f182_282_loop hD hT hcm hcl (by omega) (D.length + T.length) 0 zF s l w (by omega) (by unfold zF; omega) hB hM (by omega)
    refine ⟨s', ?_, ?_, b3⟩
    · show b182_258 (f182_258 n) _ _ _ _ _ = _
      unfold b182_258
      rw [h16, if_pos (zge (by omega))]
      exact b1
    · rw [Nat.zero_sub, List.drop_zero, List.drop_zero] at b2
      exact b2
  | succ d ih =>
    intro k n s l w hd hn hk h16 hB hM hl
    obtain ⟨n, rfl⟩ : ∃ k, n = k + 1 := ⟨n - 1, by omega⟩
    obtain ⟨s1, a1, a2, a3⟩ := hM.add (by omega) (b := 48) (by omega) (by omega)
    have hB1 : BD s1 (D ++ T) := by
      unfold BD
      rw [a3.1 24 33 rfl (fun _ => rfl), a3.f (a := 40) rfl (by decide)]
      exact hB
    obtain ⟨s', b1, b2, b3⟩ := ih (k + 1) n s1 _ (w + 1) (by omega) (by omega) (by omega) ((a3.1 24 16 rfl (fun _ => rfl)).trans h16) hB1 a2 (by rw [List.length_append]; show l.length + 1 + d ≤ 7000; omega)
    refine ⟨s', ?_, ?_, a3.trans b3⟩
    · show b182_258 (f182_258 n) _ _ _ _ _ = _
      unfold b182_258
      rw [h16, if_neg (znge (by omega)), a1, zb0_mk, zi_add]
      exact b1
    · rw [List.append_assoc] at b2
      have e9 : w + 1 + ((List.replicate d 48 ++ ((if cm = 1 then cmD D else D) ++ T ++ (if cl = 1 then [41] else []))).length : Nat) = w + ((List.replicate (d + 1) 48 ++ ((if cm = 1 then cmD D else D) ++ T ++ (if cl = 1 then [41] else []))).length : Nat) := by
        rw [List.replicate_succ, List.cons_append, List.length_cons]
        omega
      rw [e9] at b2
      exact b2
/-- how many digits the body begins with -/
theorem f182_9_loop {D T : List Int} (hD : ∀ v, v ∈ D → dgt v) (hT : byt T) (hT2 : ∀ v r, T = v :: r → ¬ dgt v) (hlen : D.length + T.length ≤ 2000) {x1 x2 x3 x4 : Int32} {s : zS} (hB : BD s (D ++ T)) : ∀ (d k n : Nat), d + k = D.length → d < n → f182_9 n x1 x2 x3 x4 (zi k) s = f182_48 x1 x2 x3 x4 (zi D.length) s := by
  have hb : s.1 24 33 = zi (D.length + T.length : Nat) := by
    rw [hB.1, List.length_append]
  intro d
  induction d with
  | zero =>
    intro k n hd hn
    obtain ⟨n, rfl⟩ : ∃ k, n = k + 1 := ⟨n - 1, by omega⟩
    have hk : k = D.length := by omega
    subst hk
    show b182_9 (f182_9 n) _ _ _ _ _ _ = _
    unfold b182_9
    rw [hb]
    cases hTe : T with
    | nil =>
      rw [if_pos (zge (by rw [show ([] : List Int).length = 0 from rfl]; omega))]
    | cons v r =>
      have hk : D.length < (D ++ T).length := by rw [List.length_append, hTe]; show D.length < D.length + (r.length + 1); omega
      have hv : (D ++ T)[D.length] = v := by
        rw [List.getElem_append_right (Nat.le_refl _)]
        simp [hTe]
      have hnd := hT2 v r hTe
      have hby := hT v (by rw [hTe]; exact List.mem_cons_self)
      have e1 : s.1 40 (zi (D.length : Int)).toNatClampNeg = zi v := by rw [zi_toNat (by omega), hB.2.get hk, hv]
      unfold dgt at hnd
      have hl2 : D.length + (r.length + 1) ≤ 2000 := by rw [hTe] at hlen; exact hlen
      rw [if_neg (znge (by rw [List.length_cons]; omega)), if_pos (zi_ix (by omega) (by omega) (by omega)), e1]
      by_cases q : v < 48
      · rw [if_pos (zlt (by omega))]
      · rw [if_neg (znlt (by omega)), if_pos (zi_ix (by omega) (by omega) (by omega)), if_pos (zgt (by omega))]
  | succ d ih =>
    intro k n hd hn
    obtain ⟨n, rfl⟩ : ∃ k, n = k + 1 := ⟨n - 1, by omega⟩
    have hkD : k < D.length := by omega
    have hk : k < (D ++ T).length := by rw [List.length_append]; omega
    have hv : (D ++ T)[k] = D[k] := List.getElem_append_left hkD
    have hdg := hD _ (List.getElem_mem hkD)
    unfold dgt at hdg
    show b182_9 (f182_9 n) _ _ _ _ _ _ = _
    unfold b182_9
    have e1 : s.1 40 (zi (k : Int)).toNatClampNeg = zi D[k] := by rw [zi_toNat (by omega), hB.2.get hk, hv]
    rw [hb, if_neg (znge (by omega)), if_pos (zi_ix (by omega) (by omega) (by omega)), e1, if_neg (znlt (by omega)), if_pos (zi_ix (by omega) (by omega) (by omega)), if_neg (zngt (by omega)), zi_add]
    exact ih (k + 1) n (by omega) (by omega)
theorem b01 {p : Prop} [Decidable p] : (if p then (1 : Int) else 0) = 0 ∨ (if p then (1 : Int) else 0) = 1 := by
  split <;> omega
theorem laid_eq {s : zS} {l : List Int} {w : Int} {F : Int32} {W m h zr : Int} {D T : List Int} (hM : MD s l w) (hB : BD s (D ++ T)) (h15 : s.1 24 15 = F) (h16 : s.1 24 16 = zi W) (hW : -1 ≤ W) (hW2 : W ≤ 2000) (hm : m = 0 ∨ m = 1) (hh : h = 0 ∨ h = 1) (hz : zr = 0 ∨ zr = 1)
    (hD : ∀ v, v ∈ D → dgt v) (hT : byt T) (hT2 : ∀ v r, T = v :: r → ¬ dgt v) (hlen : D.length + T.length ≤ 2000) (hl : l.length ≤ 1000) :
    ∃ s', f182 (zi m) (zi h) (zi zr) s = some s' ∧ MD s' (l ++ laidL F W m h zr D T) (w + (laidL F W m h zr D T).length) ∧ fr [39] [30, 31] s s' := by
  have n01 : ¬ zi 1 = zi 0 := zne (by omega)
  have hb : s.1 24 33 = zi (D.length + T.length : Nat) := by
    rw [hB.1, List.length_append]
  have e0 : f182 (zi m) (zi h) (zi zr) s = f182_48 (zi m) (zi h) (zi zr) F (zi D.length) s := by
    unfold f182
    rw [h15]
    exact f182_9_loop hD hT hT2 hlen hB D.length 0 zF (by omega) (by unfold zF; omega)
  -- commas
  have e48 : f182_48 (zi m) (zi h) (zi zr) F (zi D.length) s = f182_67 (zi m) (zi h) (zi zr) F (zi D.length) (zi (if hasF F 32 ∧ zr = 1 then 1 else 0)) s := by
    unfold f182_48
    by_cases q : hasF F 32
    · rw [r180_1 q, if_neg n01]
      rcases hz with rfl | rfl
      · rw [if_pos rfl, if_neg (fun h => absurd h.2 (by decide))]
      · rw [if_neg n01, if_pos ⟨q, rfl⟩]
    · rw [r180_0 q, if_pos rfl, if_neg (fun h => q h.1)]
  generalize hcm : (if hasF F 32 ∧ zr = 1 then (1 : Int) else 0) = cm at e48
  have hcm01 : cm = 0 ∨ cm = 1 := by rw [← hcm]; exact b01
  have ebod : bodL F zr D T = (if cm = 1 then cmD D else D) ++ T := by
    unfold bodL
    by_cases q : hasF F 32 ∧ zr = 1
    · rw [if_pos q] at hcm ⊢
      rw [if_pos hcm.symm]
    · rw [if_neg q] at hcm ⊢
      rw [if_neg (by omega)]
  have eblen : ((if cm = 1 then cmD D else D).length : Int) = D.length + (if cm = 1 then (D.length - 1) / 3 else 0 : Nat) := by
    by_cases q : cm = 1
    · rw [if_pos q, if_pos q, cmD_len]
      omega
    · rw [if_neg q, if_neg q]
      omega
  generalize hbc : (if cm = 1 then cmD D else D) = bc at ebod eblen
  have e67 : f182_67 (zi m) (zi h) (zi zr) F (zi D.length) (zi cm) s = f182_93 (zi m) (zi h) (zi zr) F (zi D.length) (zi cm) (zi (D.length + T.length : Nat)) (zi (if cm = 1 then (D.length - 1) / 3 else 0 : Nat)) s := by
    unfold f182_67
    rw [hb]
    rcases hcm01 with rfl | rfl
    · rw [if_pos rfl]
      rfl
    · rw [if_neg n01, if_pos rfl]
      by_cases q : D.length = 0
      · rw [if_pos (zle (by omega)), q]
        rfl
      · rw [if_neg (znle (by omega)), zi_sub, zi_div (by omega) (by omega) (by omega) (by omega)]
        have x : (D.length : Int) - 1 = ((D.length - 1 : Nat) : Int) := by omega
        have y : (3 : Int) = ((3 : Nat) : Int) := rfl
        rw [x, y, ntdiv]
  generalize hex : (if cm = 1 then (D.length - 1) / 3 else 0 : Nat) = ex at e67 eblen
  have hexle : ex ≤ 1000 := by
    rw [← hex]
    split <;> omega
  have e93 : f182_93 (zi m) (zi h) (zi zr) F (zi D.length) (zi cm) (zi (D.length + T.length : Nat)) (zi ex) s = f182_103 (zi m) (zi h) (zi zr) F (zi D.length) (zi cm) (zi (((D.length + T.length : Nat) : Int) + ex)) (zi (2 * h)) s := by
    unfold f182_93
    rw [zi_add]
    rcases hh with rfl | rfl
    · rw [if_pos rfl]
      rfl
    · rw [if_neg n01]
      rfl
  have hsl : ((sgnL F m).length : Int) = (if m = 1 ∨ hasF F 4 ∨ hasF F 8 then 1 else 0) := by
    unfold sgnL
    by_cases q1 : m = 1
    · rw [if_pos q1, if_pos (Or.inl q1)]
      split <;> rfl
    · rw [if_neg q1]
      by_cases q2 : hasF F 4
      · rw [if_pos q2, if_pos (Or.inr (Or.inl q2))]
        rfl
      · rw [if_neg q2]
        by_cases q3 : hasF F 8
        · rw [if_pos q3, if_pos (Or.inr (Or.inr q3))]
          rfl
        · rw [if_neg q3, if_neg (fun h => h.elim q1 (fun h => h.elim q2 q3))]
          rfl
  have hcl : ((clsL F m).length : Int) = (if m = 1 ∧ hasF F 64 then 1 else 0) := by
    unfold clsL
    split <;> rfl
  have ecls : clsL F m = if (if m = 1 ∧ hasF F 64 then (1 : Int) else 0) = 1 then [41] else [] := by
    unfold clsL
    by_cases q : m = 1 ∧ hasF F 64
    · rw [if_pos q, if_pos q, if_pos rfl]
    · rw [if_neg q, if_neg q, if_neg (by decide)]
  have e103 : ∀ x y : Int, f182_103 (zi m) (zi h) (zi zr) F (zi D.length) (zi cm) (zi x) (zi y) s = f182_134 (zi m) (zi h) (zi zr) F (zi D.length) (zi cm) (zi (x + y)) (zi (if m = 1 ∨ hasF F 4 ∨ hasF F 8 then 1 else 0)) s := by
    intro x y
    unfold f182_103
    rw [zi_add]
    rcases hm with rfl | rfl
    · rw [if_neg (not_not_intro rfl)]
      by_cases q2 : hasF F 4
      · rw [r180_1 q2, if_pos n01, if_pos (Or.inr (Or.inl q2))]
      · rw [r180_0 q2, if_neg (not_not_intro rfl)]
        by_cases q3 : hasF F 8
        · rw [r180_1 q3, if_neg n01, if_pos (Or.inr (Or.inr q3))]
        · rw [r180_0 q3, if_pos rfl, if_neg (fun h => h.elim (by decide) (fun h => h.elim q2 q3))]
    · rw [if_pos n01, if_pos (Or.inl rfl)]
  generalize hsg : (if m = 1 ∨ hasF F 4 ∨ hasF F 8 then (1 : Int) else 0) = sg at e103 hsl
  have hsg01 : sg = 0 ∨ sg = 1 := by rw [← hsg]; exact b01
  have e134 : ∀ x : Int, f182_134 (zi m) (zi h) (zi zr) F (zi D.length) (zi cm) (zi x) (zi sg) s = f182_155 (zi m) (zi h) (zi zr) F (zi D.length) (zi cm) (zi x) (zi sg) (zi (if m = 1 ∧ hasF F 64 then 1 else 0)) s := by
    intro x
    unfold f182_134
    rcases hm with rfl | rfl
    · rw [if_pos rfl, if_neg (fun h => absurd h.1 (by decide))]
    · rw [if_neg n01]
      by_cases q : hasF F 64
      · rw [r180_1 q, if_neg n01, if_pos ⟨rfl, q⟩]
      · rw [r180_0 q, if_pos rfl, if_neg (fun h => q h.2)]
  generalize hclg : (if m = 1 ∧ hasF F 64 then (1 : Int) else 0) = cl at e134 hcl ecls
  have hcl01 : cl = 0 ∨ cl = 1 := by rw [← hclg]; exact b01
  have e155 : ∀ x : Int, f182_155 (zi m) (zi h) (zi zr) F (zi D.length) (zi cm) (zi x) (zi sg) (zi cl) s = f182_173 (zi m) (zi h) (zi zr) F (zi D.length) (zi cm) (zi (x + sg + cl)) (zi cl) s := by
    intro x
    unfold f182_155 f182_165
    rcases hsg01 with e | e <;> rcases hcl01 with e' | e' <;> rw [e, e']
    · rw [if_pos rfl, if_pos rfl]
      congr 1
      congr 1
      omega
    · rw [if_pos rfl, if_neg n01, zi_add]
      congr 1
      congr 1
      omega
    · rw [if_neg n01, if_pos rfl, zi_add]
      congr 1
      congr 1
      omega
    · rw [if_neg n01, if_neg n01, zi_add, zi_add]
  have e173 : ∀ x : Int, ∃ s1, f182_173 (zi m) (zi h) (zi zr) F (zi D.length) (zi cm) (zi x) (zi cl) s = f182_230 (zi h) (zi zr) F (zi D.length) (zi cm) (zi x) (zi cl) s1 ∧ MD s1 (l ++ sgnL F m) (w + (sgnL F m).length) ∧ fr [39] [30, 31] s s1 := by
    intro x
    have one : ∀ b : Int, -128 ≤ b → b ≤ 127 → ∃ s1, f175 (zi b) s = some s1 ∧ MD s1 (l ++ [b]) (w + ([b] : List Int).length) ∧ fr [39] [30, 31] s s1 := fun b h1 h2 => hM.add (by omega) h1 h2
    unfold f182_173 f182_190 sgnL
    rcases hm with rfl | rfl
    · rw [if_pos rfl, if_neg (show ¬ (0 : Int) = 1 by decide)]
      by_cases q2 : hasF F 4
      · obtain ⟨s1, a1, a2, a3⟩ := one 43 (by omega) (by omega)
        rw [r180_1 q2, if_neg n01, if_pos q2, a1]
        exact ⟨s1, rfl, a2, a3⟩
      · rw [r180_0 q2, if_pos rfl, if_neg q2]
        by_cases q3 : hasF F 8
        · obtain ⟨s1, a1, a2, a3⟩ := one 32 (by omega) (by omega)
          rw [r180_1 q3, if_neg n01, if_pos q3, a1]
          exact ⟨s1, rfl, a2, a3⟩
        · rw [r180_0 q3, if_pos rfl, if_neg q3]
          refine ⟨s, rfl, ?_, fr.refl⟩
          rw [List.append_nil]
          have e : w + (([] : List Int).length : Nat) = w := by show w + ((0 : Nat) : Int) = w; omega
          rw [e]
          exact hM
    · rw [if_neg n01, if_pos rfl]
      by_cases q : hasF F 64
      · have : cl = 1 := by rw [← hclg, if_pos ⟨rfl, q⟩]
        obtain ⟨s1, a1, a2, a3⟩ := one 40 (by omega) (by omega)
        rw [this, if_neg n01, if_pos q, a1]
        exact ⟨s1, rfl, a2, a3⟩
      · have : cl = 0 := by rw [← hclg, if_neg (fun h => q h.2)]
        obtain ⟨s1, a1, a2, a3⟩ := one 45 (by omega) (by omega)
        rw [this, if_pos rfl, if_neg q, a1]
        exact ⟨s1, rfl, a2, a3⟩
  have hs1 := sgnL_len F m
  obtain ⟨s1, a1, a2, a3⟩ := e173 (((D.length + T.length : Nat) : Int) + ex + 2 * h + sg + cl)
  have e230 : ∀ x : Int, ∃ s2, f182_230 (zi h) (zi zr) F (zi D.length) (zi cm) (zi x) (zi cl) s1 = f182_240 (zi zr) F (zi D.length) (zi cm) (zi x) (zi cl) s2 ∧ MD s2 (l ++ laidA F m h) (w + (laidA F m h).length) ∧ fr [39] [30, 31] s1 s2 := by
    intro x
    unfold f182_230 laidA hxL
    rcases hh with rfl | rfl
    · rw [if_pos rfl, if_neg (show ¬ (0 : Int) = 1 by decide), List.append_nil]
      exact ⟨s1, rfl, a2, fr.refl⟩
    · obtain ⟨s2, b1, b2, b3⟩ := a2.say (c := 66) (by omega) (by rw [List.length_append]; omega)
      rw [if_neg n01, if_pos rfl, b1]
      refine ⟨s2, rfl, ?_, b3⟩
      rw [lit66, List.append_assoc] at b2
      have e : w + ((sgnL F m).length : Nat) + (([48, 120] : List Int).length : Nat) = w + ((sgnL F m ++ [48, 120]).length : Nat) := by
        rw [List.length_append]
        omega
      rw [e] at b2
      exact b2
  obtain ⟨s2, b1, b2, b3⟩ := e230 (((D.length + T.length : Nat) : Int) + ex + 2 * h + sg + cl)
  have hAl : ((laidA F m h).length : Int) = sg + 2 * h := by
    unfold laidA hxL
    rw [List.length_append]
    rcases hh with rfl | rfl
    · rw [if_neg (show ¬ (0 : Int) = 1 by decide)]
      show (((sgnL F m).length + 0 : Nat) : Int) = _
      omega
    · rw [if_pos rfl]
      show (((sgnL F m).length + 2 : Nat) : Int) = _
      omega
  have hBl : ((laidB F m zr D T).length : Int) = D.length + T.length + ex + cl := by
    unfold laidB
    rw [ebod, List.length_append, List.length_append]
    omega
  have hAB : ((laidA F m h ++ laidB F m zr D T).length : Int) = ((D.length + T.length : Nat) : Int) + ex + 2 * h + sg + cl := by
    rw [List.length_append]
    omega
  have hfr : fr [39] [30, 31] s s2 := a3.trans b3
  have hB2 : BD s2 (D ++ T) := by
    unfold BD
    rw [hfr.1 24 33 rfl (fun _ => rfl), hfr.f (a := 40) rfl (by decide)]
    exact hB
  have hla : (l ++ laidA F m h).length ≤ 1003 := by rw [List.length_append]; omega
  have efin : f182 (zi m) (zi h) (zi zr) s = f182_240 (zi zr) F (zi D.length) (zi cm) (zi (((D.length + T.length : Nat) : Int) + ex + 2 * h + sg + cl)) (zi cl) s2 := by
    rw [e0, e48, e67, e93, e103, e134, e155, a1, b1]
  have eB : laidB F m zr D T = (if cm = 1 then cmD D else D) ++ T ++ (if cl = 1 then [41] else []) := by
    unfold laidB
    rw [ebod, ecls, hbc]
  unfold laidL laidZ
  by_cases q : hasF F 16 ∧ zr = 1
  · obtain ⟨q1, q2⟩ := q
    subst q2
    obtain ⟨s', d1, d2, d3⟩ := f182_258_loop hD hT hcm01 hcl01 hlen hW hW2 (W - ((laidA F m h ++ laidB F m 1 D T).length : Nat)).toNat (laidA F m h ++ laidB F m 1 D T).length zF s2 _ _ rfl (by unfold zF; omega) (by omega) ((hfr.1 24 16 rfl (fun _ => rfl)).trans h16) hB2 b2 (by omega)
    refine ⟨s', ?_, ?_, hfr.trans d3⟩
    · rw [efin]
      unfold f182_240
      rw [r180_1 q1, if_neg n01, if_neg n01]
      rw [hAB] at d1
      exact d1
    · rw [if_pos ⟨q1, rfl⟩, eB]
      rw [eB, List.append_assoc] at d2
      have e9 : w + ((laidA F m h).length : Nat) + ((List.replicate (W - ((laidA F m h ++ ((if cm = 1 then cmD D else D) ++ T ++ (if cl = 1 then [41] else []))).length : Nat)).toNat 48 ++ ((if cm = 1 then cmD D else D) ++ T ++ (if cl = 1 then [41] else []))).length : Nat) = w + ((laidA F m h ++ (List.replicate (W - ((laidA F m h ++ ((if cm = 1 then cmD D else D) ++ T ++ (if cl = 1 then [41] else []))).length : Nat)).toNat 48 ++ ((if cm = 1 then cmD D else D) ++ T ++ (if cl = 1 then [41] else [])))).length : Nat) := by
        simp only [List.length_append]
        omega
      rw [e9] at d2
      exact d2
  · obtain ⟨s', d1, d2, d3⟩ := f182_282_loop hD hT hcm01 hcl01 (by omega) (D.length + T.length) 0 zF s2 _ _ (by omega) (by unfold zF; omega) hB2 b2 (by omega)
    refine ⟨s', ?_, ?_, hfr.trans d3⟩
    · rw [efin]
      unfold f182_240
      by_cases q1 : hasF F 16
      · rw [r180_1 q1, if_neg n01, if_pos (zeq (by rcases hz with e | e; exact e; exact absurd ⟨q1, e⟩ q))]
        exact d1
      · rw [r180_0 q1, if_pos rfl]
        exact d1
    · rw [if_neg q, eB, List.nil_append]
      rw [Nat.zero_sub, List.drop_zero, List.drop_zero, List.append_assoc] at d2
      have e9 : w + ((laidA F m h).length : Nat) + (((if cm = 1 then cmD D else D) ++ T ++ (if cl = 1 then [41] else [])).length : Nat) = w + ((laidA F m h ++ ((if cm = 1 then cmD D else D) ++ T ++ (if cl = 1 then [41] else []))).length : Nat) := by
        simp only [List.length_append]
        omega
      rw [e9] at d2
      exact d2
