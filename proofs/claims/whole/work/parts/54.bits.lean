theorem nar1 : vp_nar .boolean 1 = 1 := rfl
theorem nar0 : vp_nar .boolean 0 = 0 := rfl
/-! bits of an int -/
def tb (x : Int32) (p : Nat) : Bool := x.toBitVec.getLsbD p
theorem tb_hi {x : Int32} {p : Nat} (h : 32 ≤ p) : tb x p = false := BitVec.getLsbD_of_ge _ _ h
theorem tb_ext {x y : Int32} (h : ∀ p, p < 32 → tb x p = tb y p) : x = y := by
  apply Int32.toBitVec_inj.mp
  apply BitVec.eq_of_getLsbD_eq
  intro i hi
  exact h i hi
theorem tb_and (x y : Int32) (p : Nat) : tb (x &&& y) p = (tb x p && tb y p) := by
  unfold tb; rw [Int32.toBitVec_and, BitVec.getLsbD_and]
theorem tb_or (x y : Int32) (p : Nat) : tb (x ||| y) p = (tb x p || tb y p) := by
  unfold tb; rw [Int32.toBitVec_or, BitVec.getLsbD_or]
theorem tb_0 (p : Nat) : tb 0 p = false := by
  unfold tb; simp
theorem nI_m31 {p : Nat} (h : p < 32) : (nI p &&& 31) = nI p := by
  revert p; decide +kernel
theorem tb_sm {p : Nat} (h : p < 32) : ((nI p).toBitVec.smod 32).toNat = p := by
  revert p; decide +kernel
theorem tb_shr (x : Int32) {p : Nat} (h : p < 32) : tb (x >>> (nI p &&& 31)) 0 = tb x p := by
  unfold tb
  rw [nI_m31 h, Int32.toBitVec_shiftRight]
  rw [BitVec.sshiftRight_eq', tb_sm h, BitVec.getLsbD_sshiftRight]
  simp [h]
theorem tb_and1 (y : Int32) : (y &&& 1 = 0 ∧ tb y 0 = false) ∨ (y &&& 1 = 1 ∧ tb y 0 = true) := by
  have h1 : ∀ p, p < 32 → tb 1 p = decide (p = 0) := by decide +kernel
  cases e : tb y 0
  · left
    refine ⟨tb_ext fun p hp => ?_, rfl⟩
    rw [tb_and, h1 p hp, tb_0]
    by_cases q : p = 0
    · subst q; rw [e]; rfl
    · simp [q]
  · right
    refine ⟨tb_ext fun p hp => ?_, rfl⟩
    rw [tb_and, h1 p hp]
    by_cases q : p = 0
    · subst q; rw [e]; rfl
    · simp [q]
theorem tb_t0 (x : Int32) {p : Nat} (h : p < 32) : ((x >>> (nI p &&& 31)) &&& 1 = 0) ↔ tb x p = false := by
  rw [← tb_shr x h]
  rcases tb_and1 (x >>> (nI p &&& 31)) with ⟨a, b⟩ | ⟨a, b⟩
  · simp [a, b]
  · rw [a, b]; simp
theorem tb_t1 (x : Int32) {p : Nat} (h : p < 32) : ((x >>> (nI p &&& 31)) &&& 1 = 1) ↔ tb x p = true := by
  rw [← tb_shr x h]
  rcases tb_and1 (x >>> (nI p &&& 31)) with ⟨a, b⟩ | ⟨a, b⟩
  · rw [a, b]; simp
  · simp [a, b]
theorem tb_shl (x : Int32) {b : Nat} (h : b < 32) (q : Nat) : tb (x <<< (nI b &&& 31)) q = (decide (q < 32) && !decide (q < b) && tb x (q - b)) := by
  unfold tb
  rw [nI_m31 h, Int32.toBitVec_shiftLeft, BitVec.shiftLeft_eq', tb_sm h, BitVec.getLsbD_shiftLeft]
theorem tb_bit {p : Nat} (h : p < 32) (q : Nat) : tb ((1 : Int32) <<< (nI p &&& 31)) q = decide (q = p) := by
  rw [tb_shl _ h]
  have h1 : ∀ p, p < 32 → tb 1 p = decide (p = 0) := by decide +kernel
  by_cases a : q < 32
  · rw [h1 (q - p) (by omega)]
    by_cases e : q = p
    · subst e; simp [a]
    · by_cases c : q < p
      · simp [c, e]
      · simp [e]; omega
  · have : q ≠ p := by omega
    simp [a, this]
theorem tb_nI {n p : Nat} (h : n < 2 ^ 32) : tb (nI n) p = n.testBit p := by
  show (nI n).toBitVec.getLsbD p = _
  rw [BitVec.getLsbD, pk_tn h]
/-- a set of places below 9 -/
def S9 (x : Int32) : Prop := ∀ p, 9 ≤ p → tb x p = false
theorem S9_nI {x : Int32} (h : S9 x) : ∃ j : Nat, j < 512 ∧ x = nI j := by
  refine ⟨x.toBitVec.toNat, ?_, ?_⟩
  · exact Nat.lt_pow_two_of_testBit (n := 9) x.toBitVec.toNat (fun i hi => h i hi)
  · apply tb_ext
    intro p hp
    rw [tb_nI (BitVec.isLt _)]
    rfl
theorem S9_and {x y : Int32} (h : S9 y) : S9 (x &&& y) := fun p hp => by rw [tb_and, h p hp, Bool.and_false]
theorem S9_0 : S9 0 := fun p _ => tb_0 p
