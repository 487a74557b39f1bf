/-! The tape: type, both sides -/
def bt (x : Int64) (l : Nat) : Nat := x.toBitVec.toNat / 2 ^ (8 * l) % 256
theorem bt_lt {x : Int64} {l : Nat} : bt x l < 256 := Nat.mod_lt _ (by omega)
theorem bt_sh (x : Int64) (l j : Nat) (hj : j < 8) : (bt x l).testBit j = x.toBitVec.getLsbD (8 * l + j) := by
  unfold bt
  rw [show (256 : Nat) = 2 ^ 8 by decide, Nat.testBit_mod_two_pow, Nat.testBit_div_two_pow]
  simp [hj, BitVec.getLsbD, Nat.add_comm]
theorem tb_255 (p : Nat) (hp : p < 32) : tb 255 p = decide (p < 8) := by
  have h : ∀ p, p < 32 → tb 255 p = decide (p < 8) := by decide +kernel
  exact h p hp
theorem bt_u (x : Int64) {l : Nat} (hl : l < 8) : ((((x : Int64).toUInt64 >>> (((8 * nI l) : Int32).toInt64.toUInt64 &&& Int64.toUInt64 63)).toInt64 : Int64).toInt32 &&& (255 : Int32)) = nI (bt x l) := by
  have hs : ∀ l, l < 8 → (((8 * nI l : Int32).toInt64.toUInt64 &&& Int64.toUInt64 63).toBitVec % 64).toNat = 8 * l := by decide +kernel
  apply tb_ext
  intro p hp
  rw [tb_and, tb_255 p hp, tb_nI (by have := @bt_lt x l; omega)]
  by_cases hp8 : p < 8
  · rw [bt_sh x l p hp8]
    simp only [hp8, decide_true, Bool.and_true]
    unfold tb
    rw [Int64.toBitVec_toInt32, BitVec.getLsbD_signExtend]
    have hp64 : p < 64 := by omega
    simp only [hp, hp64, decide_true, Bool.true_and, if_true]
    show ((x.toUInt64 >>> ((8 * nI l : Int32).toInt64.toUInt64 &&& Int64.toUInt64 63)).toBitVec).getLsbD p = _
    rw [UInt64.toBitVec_shiftRight]
    show (x.toUInt64.toBitVec >>> ((((8 * nI l : Int32).toInt64.toUInt64 &&& Int64.toUInt64 63).toBitVec) % 64)).getLsbD p = _
    rw [BitVec.ushiftRight_eq', BitVec.getLsbD_ushiftRight, hs l hl]
    rfl
  · simp only [hp8, decide_false, Bool.and_false]
    rw [Nat.testBit_lt_two_pow]
    exact Nat.lt_of_lt_of_le (bt_lt) (Nat.pow_le_pow_right (n := 2) (by omega) (show 8 ≤ p by omega))
theorem g255 (p : Nat) (hp : p < 32) : (255 : Int64).toBitVec.getLsbD p = decide (p < 8) := by
  have h : ∀ p, p < 32 → (255 : Int64).toBitVec.getLsbD p = decide (p < 8) := by decide +kernel
  exact h p hp
theorem bt_s (x : Int64) {l : Nat} (hl : l < 8) : ((((x >>> (((8 * nI l) : Int32).toInt64 &&& 63)) &&& 255) : Int64).toInt32) = nI (bt x l) := by
  have hs : ∀ l, l < 8 → ((((8 * nI l) : Int32).toInt64 &&& 63).toBitVec.smod 64).toNat = 8 * l := by decide +kernel
  apply tb_ext
  intro p hp
  rw [tb_nI (by have := @bt_lt x l; omega)]
  unfold tb
  have hp64 : p < 64 := by omega
  rw [Int64.toBitVec_toInt32, BitVec.getLsbD_signExtend]
  simp only [hp, hp64, decide_true, Bool.true_and, if_true]
  rw [Int64.toBitVec_and, BitVec.getLsbD_and, g255 p hp]
  by_cases hp8 : p < 8
  · rw [bt_sh x l p hp8]
    simp only [hp8, decide_true, Bool.and_true]
    rw [Int64.toBitVec_shiftRight, BitVec.sshiftRight_eq', hs l hl, BitVec.getLsbD_sshiftRight]
    have h1 : ¬ 64 ≤ p := by omega
    have h2 : 8 * l + p < 64 := by omega
    simp [h1, h2]
  · simp only [hp8, decide_false, Bool.and_false]
    rw [Nat.testBit_lt_two_pow]
    exact Nat.lt_of_lt_of_le (bt_lt) (Nat.pow_le_pow_right (n := 2) (by omega) (show 8 ≤ p by omega))
/-- both hold the same tape -/
def WT (tp : Nat → Nat) (t : Nat) (tl ty : Int32) (ta tb : Nat → Int32) : Prop := t ≤ 24 ∧ tl = nI t ∧ ty = nI t ∧ ∀ i, i < t → ta i = nI (tp i) ∧ tb i = nI (tp i) ∧ tp i < 256
/-- what is written behind t -/
def ap (x : Int64) (m t : Nat) (f : Nat → Int32) (g : Nat → Int32) : Prop := (∀ i, i < t → g i = f i) ∧ ∀ k, k < m → g (t + k) = nI (bt x (m - 1 - k))
theorem ap_step {x : Int64} {m t : Nat} {f g : Nat → Int32} (h : ap x m (t + 1) (upd f t (nI (bt x m))) g) : ap x (m + 1) t f g := by
  obtain ⟨h1, h2⟩ := h
  refine ⟨fun i hi => ?_, fun k hk => ?_⟩
  · rw [h1 i (by omega)]
    unfold upd
    rw [if_neg (by omega)]
  · cases k with
    | zero =>
      rw [Nat.add_zero, h1 t (by omega)]
      unfold upd
      rw [if_pos rfl]
      rfl
    | succ k =>
      have := h2 k (by omega)
      rw [show t + (k + 1) = t + 1 + k by omega, this]
      rw [show m + 1 - 1 - (k + 1) = m - 1 - k by omega]
theorem q_type29 {x : Int64} {post : Int32 → Int32 → (Nat → Int32) → Prop} : ∀ (m t : Nat) (f : Nat → Int32), m ≤ 8 → t + m ≤ 24 → (∀ g, ap x m t f g → post 1 (nI (t + m)) g) → p_TB_type_29 x post (m + 1) (nI m - 1) (nI t) f := by
  intro m
  induction m with
  | zero =>
    intro t f _ _ h
    exact ⟨fun _ => h f ⟨fun _ _ => rfl, fun k hk => absurd hk (by omega)⟩, fun z => absurd (by decide) z⟩
  | succ m ih =>
    intro t f hm ht h
    have e : nI (m + 1) - 1 = nI m := pk_sub (a := m + 1) (b := 1) (by omega)
    refine ⟨fun z => absurd z (by rw [e]; exact nI_pos (by omega)), fun _ => ⟨vp_in_nI (by omega) (by omega), ?_⟩⟩
    rw [e, bt_u x (by omega), nI_clamp (by omega), nI_1]
    have e2 : nI m + (-1) = nI m - 1 := by rw [Int32.sub_eq_add_neg]
    rw [e2]
    exact ih (t + 1) _ (by omega) (by omega) (fun g hg => by
      have := h g (ap_step hg)
      rwa [show t + (m + 1) = t + 1 + m by omega] at this)
theorem q_M_type34 {x : Int64} {co : Int32} {post : Int32 → Int32 → Int32 → (Nat → Int32) → Prop} : ∀ (m t : Nat) (f : Nat → Int32), m ≤ 8 → t + m ≤ 24 → (∀ g, ap x m t f g → post 1 co (nI (t + m)) g) → p_M_type_34 x post (m + 1) (nI m - 1) co (nI t) f := by
  intro m
  induction m with
  | zero =>
    intro t f _ _ h
    exact ⟨fun _ => h f ⟨fun _ _ => rfl, fun k hk => absurd hk (by omega)⟩, fun z => absurd (by decide) z⟩
  | succ m ih =>
    intro t f hm ht h
    have e : nI (m + 1) - 1 = nI m := pk_sub (a := m + 1) (b := 1) (by omega)
    refine ⟨fun z => absurd z (by rw [e]; exact nI_pos (by omega)), fun _ => ⟨vp_in_nI (by omega) (by omega), ?_⟩⟩
    rw [e, bt_s x (by omega), nI_clamp (by omega), nI_1]
    have e2 : nI m + (-1) = nI m - 1 := by rw [Int32.sub_eq_add_neg]
    rw [e2]
    exact ih (t + 1) _ (by omega) (by omega) (fun g hg => by
      have := h g (ap_step hg)
      rwa [show t + (m + 1) = t + 1 + m by omega] at this)
theorem x18 (x : Int32) (h1 : ¬ x < 1) (h2 : ¬ 8 < x) : ∃ m, 1 ≤ m ∧ m ≤ 8 ∧ x = nI m := by
  rcases pk_ix x (n := 9) (by omega) with z | z | ⟨j, hj, e⟩
  · exact absurd (Int32.lt_trans z (by decide)) h1
  · exact absurd (Int32.lt_of_lt_of_le (by decide) z) h2
  · subst e
    refine ⟨j, ?_, by omega, rfl⟩
    rcases Nat.eq_zero_or_pos j with y | y
    · subst y; exact absurd (by decide) h1
    · exact y
theorem q2_type {tp : Nat → Nat} {t : Nat} {tl ty : Int32} {ta tm : Nat → Int32} (h : WT tp t tl ty ta tm) (x1 : Int64) (x2 : Int32) {post : Int32 → Int32 → (Nat → Int32) → Prop}
    (hp : ∀ r tl' ta', (∀ pm : Int32 → Int32 → Int32 → (Nat → Int32) → Prop, (∀ ty' tm' tp' t', WT tp' t' tl' ty' ta' tm' → pm r 0 ty' tm') → p_M_type ty tm x1 x2 pm) → post r tl' ta') : p_TB_type tl ta x1 x2 post := by
  obtain ⟨h1, h2, h3, h4⟩ := h
  subst h2 h3
  have h0 : WT tp t (nI t) (nI t) ta tm := ⟨h1, rfl, rfl, h4⟩
  refine ⟨fun z => hp _ _ _ (fun pm hm => ⟨fun _ => hm _ _ _ _ h0, fun y => absurd z y⟩), fun z => ⟨fun z2 => hp _ _ _ (fun pm hm => ⟨fun y => absurd y z, fun _ => ⟨fun _ => hm _ _ _ _ h0, fun y => absurd z2 y⟩⟩), fun z2 => ?_⟩⟩
  obtain ⟨m, m1, m2, em⟩ := x18 x2 z z2
  subst em
  refine ⟨fun z3 => ⟨m + 1, q_type29 m t ta m2 ?_ (fun g hg => hp _ _ _ (fun pm hm => ⟨fun y => absurd y z, fun _ => ⟨fun y => absurd y z2, fun _ => ⟨fun _ => ⟨m + 1, q_M_type34 m t tm m2 ?_ (fun g' hg' => hm _ _ (fun i => if i < t then tp i else bt x1 (m - 1 - (i - t))) (t + m) ?_)⟩, fun y => absurd z3 y⟩⟩⟩))⟩, fun z3 => hp _ _ _ (fun pm hm => ⟨fun y => absurd y z, fun _ => ⟨fun y => absurd y z2, fun _ => ⟨fun y => absurd y z3, fun _ => hm _ _ _ _ h0⟩⟩⟩)⟩
  · exact (nI_leI (a := t + m) (b := 24) (by omega) (by omega)).mp (by rw [← nI_add]; exact z3)
  · exact (nI_leI (a := t + m) (b := 24) (by omega) (by omega)).mp (by rw [← nI_add]; exact z3)
  · have h24 : t + m ≤ 24 := (nI_leI (a := t + m) (b := 24) (by omega) (by omega)).mp (by rw [← nI_add]; exact z3)
    refine ⟨h24, rfl, rfl, fun i hi => ?_⟩
    by_cases c : i < t
    · show g i = nI (if i < t then _ else _) ∧ g' i = nI (if i < t then _ else _) ∧ (if i < t then _ else _) < 256
      rw [if_pos c, hg.1 i c, hg'.1 i c]
      exact h4 i c
    · show g i = nI (if i < t then _ else _) ∧ g' i = nI (if i < t then _ else _) ∧ (if i < t then _ else _) < 256
      rw [if_neg c]
      have a := hg.2 (i - t) (by omega)
      have b := hg'.2 (i - t) (by omega)
      rw [show t + (i - t) = i by omega] at a b
      exact ⟨a, b, bt_lt⟩
