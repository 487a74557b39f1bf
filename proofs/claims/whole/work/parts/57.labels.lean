/-! Labels by first occurrence, finer and finer -/
theorem Canon.smono {N cnt : Nat} {g s : Nat → Nat} (h : Canon N g cnt s) {a b : Nat} (hab : a < b) (hb : b < cnt) : s a < s b := by
  obtain ⟨a1, a2, a3⟩ := h.1 a (by omega)
  obtain ⟨b1, b2, b3⟩ := h.1 b hb
  rcases Nat.lt_trichotomy (s a) (s b) with z | z | z
  · exact z
  · rw [z] at a2; omega
  · have := a3 _ z; omega
theorem Canon.sle {N cnt : Nat} {g s : Nat → Nat} (h : Canon N g cnt s) : ∀ k, k < cnt → k ≤ s k := by
  intro k
  induction k with
  | zero => intro _; exact Nat.zero_le _
  | succ k ih =>
    intro hk
    have h1 := ih (by omega)
    have h2 := h.smono (show k < k + 1 by omega) hk
    omega
theorem Canon.le {N cnt : Nat} {g s : Nat → Nat} (h : Canon N g cnt s) : cnt ≤ N := by
  rcases Nat.eq_zero_or_pos cnt with z | z
  · omega
  · have h1 := h.sle (cnt - 1) (by omega)
    have h2 := (h.1 (cnt - 1) (by omega)).1
    omega
theorem Canon.phi {N cnt cnt' : Nat} {g g' s s' : Nat → Nat} (h : Canon N g cnt s) (h' : Canon N g' cnt' s') (hf : ∀ i j, i < N → j < N → g' i = g' j → g i = g j) {a b : Nat} (hab : a < b) (hb : b < cnt) : g' (s a) < g' (s b) := by
  obtain ⟨a1, a2, a3⟩ := h.1 a (by omega)
  obtain ⟨b1, b2, b3⟩ := h.1 b hb
  have hs := h.smono hab hb
  obtain ⟨c1, c2, c3⟩ := h'.1 (g' (s b)) (h'.2 _ b1)
  have hle := h'.first b1
  have he : s' (g' (s b)) = s b := by
    rcases Nat.lt_or_ge (s' (g' (s b))) (s b) with z | z
    · have e := hf _ _ c1 b1 c2
      have := b3 _ z
      omega
    · omega
  rw [he] at c3
  exact c3 _ hs
theorem Canon.phi_le {N cnt cnt' : Nat} {g g' s s' : Nat → Nat} (h : Canon N g cnt s) (h' : Canon N g' cnt' s') (hf : ∀ i j, i < N → j < N → g' i = g' j → g i = g j) : ∀ k, k < cnt → k ≤ g' (s k) := by
  intro k
  induction k with
  | zero => intro _; exact Nat.zero_le _
  | succ k ih =>
    intro hk
    have h1 := ih (by omega)
    have h2 := h.phi h' hf (show k < k + 1 by omega) hk
    omega
theorem Canon.mono {N cnt cnt' : Nat} {g g' s s' : Nat → Nat} (h : Canon N g cnt s) (h' : Canon N g' cnt' s') (hf : ∀ i j, i < N → j < N → g' i = g' j → g i = g j) : cnt ≤ cnt' := by
  rcases Nat.eq_zero_or_pos cnt with z | z
  · omega
  · have h1 := h.phi_le h' hf (cnt - 1) (by omega)
    have h2 := h'.2 _ (h.1 (cnt - 1) (by omega)).1
    omega
theorem Canon.same {N cnt : Nat} {g g' s s' : Nat → Nat} (h : Canon N g cnt s) (h' : Canon N g' cnt s') (hf : ∀ i j, i < N → j < N → g' i = g' j → g i = g j) : ∀ i, i < N → g' i = g i := by
  have up : ∀ d k, k + d + 1 = cnt → g' (s k) = k := by
    intro d
    induction d with
    | zero =>
      intro k hk
      have h1 := h.phi_le h' hf k (by omega)
      have h2 := h'.2 _ (h.1 k (by omega)).1
      omega
    | succ d ih =>
      intro k hk
      have h1 := ih (k + 1) (by omega)
      have h2 := h.phi h' hf (show k < k + 1 by omega) (by omega)
      have h3 := h.phi_le h' hf k (by omega)
      omega
  intro i hi
  have hk := h'.2 i hi
  have h1 := up (cnt - 1 - g' i) (g' i) (by omega)
  have h2 := hf _ _ (h.1 (g' i) hk).1 hi h1
  rw [(h.1 (g' i) hk).2.1] at h2
  exact h2
theorem Canon.comp {A N G : Nat} {y s l t : Nat → Nat} (h : Canon A y N s) (h' : Canon N l G t) : Canon A (fun i => l (y i)) G (fun k => s (t k)) := by
  refine ⟨fun k hk => ?_, fun i hi => h'.2 _ (h.2 i hi)⟩
  obtain ⟨a1, a2, a3⟩ := h'.1 k hk
  obtain ⟨b1, b2, b3⟩ := h.1 _ a1
  exact ⟨b1, by show l (y (s (t k))) = k; rw [b2, a2], fun i hi => a3 _ (b3 i hi)⟩
/-! An automaton: nodes below N; a step to node 0 is none -/
def Auto : Type := (Nat) × (Nat → Nat → Nat) × (Nat → Int32)
def Auto.mk (N : Nat) (to : Nat → Nat → Nat) (wn : Nat → Int32) : Auto := (N, to, wn)
def Auto.N : Auto → Nat := fun (x : (Nat) × (Nat → Nat → Nat) × (Nat → Int32)) => x.1
def Auto.to : Auto → (Nat → Nat → Nat) := fun (x : (Nat) × (Nat → Nat → Nat) × (Nat → Int32)) => x.2.1
def Auto.wn : Auto → (Nat → Int32) := fun (x : (Nat) × (Nat → Nat → Nat) × (Nat → Int32)) => x.2.2

def Auto.Ok (A : Auto) : Prop :=
  (0 < A.N) ∧
  (A.N ≤ 512) ∧
  (∀ k c, k < A.N → c < 6 → A.to k c < A.N) ∧
  (A.wn 0 = -1) ∧
  (∀ k, k < A.N → A.wn k = -1 ∨ ∃ r, r < 16 ∧ A.wn k = nI r)
theorem Auto.Ok.pos {A : Auto} (h_ : Auto.Ok A) : 0 < A.N := h_.1
theorem Auto.Ok.le {A : Auto} (h_ : Auto.Ok A) : A.N ≤ 512 := h_.2.1
theorem Auto.Ok.to {A : Auto} (h_ : Auto.Ok A) : ∀ k c, k < A.N → c < 6 → A.to k c < A.N := h_.2.2.1
theorem Auto.Ok.w0 {A : Auto} (h_ : Auto.Ok A) : A.wn 0 = -1 := h_.2.2.2.1
theorem Auto.Ok.wn {A : Auto} (h_ : Auto.Ok A) : ∀ k, k < A.N → A.wn k = -1 ∨ ∃ r, r < 16 ∧ A.wn k = nI r := h_.2.2.2.2

/-- the node behind a word, from a node that is there or not -/
def Auto.run (A : Auto) : Option Nat → List Nat → Option Nat
  | k, [] => k
  | none, _ :: _ => none
  | some k, c :: w => if A.to k c = 0 then none else A.run (some (A.to k c)) w
def W6 (w : List Nat) : Prop := ∀ c ∈ w, c < 6
def Auto.obs (A : Auto) (k : Nat) (w : List Nat) : Option Int32 := (A.run (some k) w).map A.wn
def Eqv (A : Auto) (i j : Nat) : Prop := ∀ w, W6 w → A.obs i w = A.obs j w
/-- the label behind a step: -1 if there is none -/
def gA (g : Nat → Nat) (t : Nat) : Int32 := if t = 0 then -1 else nI (g t)
def alike (A : Auto) (g : Nat → Nat) (i j : Nat) : Prop := g i = g j ∧ ∀ c, c < 6 → gA g (A.to i c) = gA g (A.to j c)
theorem gA_iff {g : Nat → Nat} {a b : Nat} (ha : g a < 2 ^ 31) (hb : g b < 2 ^ 31) : gA g a = gA g b ↔ (a = 0 ∧ b = 0) ∨ (a ≠ 0 ∧ b ≠ 0 ∧ g a = g b) := by
  unfold gA
  by_cases h1 : a = 0 <;> by_cases h2 : b = 0
  · simp [h1, h2]
  · rw [if_pos h1, if_neg h2]
    refine ⟨fun e => absurd e.symm (nI_nm1 hb), fun e => by omega⟩
  · rw [if_neg h1, if_pos h2]
    refine ⟨fun e => absurd e (nI_nm1 ha), fun e => by omega⟩
  · rw [if_neg h1, if_neg h2, nI_eq ha hb]
    refine ⟨fun e => Or.inr ⟨h1, h2, e⟩, fun e => by omega⟩
/-- labels that are not too fine, and tell winners apart -/
def Lab (A : Auto) (g : Nat → Nat) : Prop :=
  (∀ i, i < A.N → g i < 512) ∧
  (∀ i j, i < A.N → j < A.N → Eqv A i j → g i = g j) ∧
  (∀ i j, i < A.N → j < A.N → g i = g j → A.wn i = A.wn j)
theorem Lab.lt {A : Auto} {g : Nat → Nat} (h_ : Lab A g) : ∀ i, i < A.N → g i < 512 := h_.1
theorem Lab.co {A : Auto} {g : Nat → Nat} (h_ : Lab A g) : ∀ i j, i < A.N → j < A.N → Eqv A i j → g i = g j := h_.2.1
theorem Lab.wn {A : Auto} {g : Nat → Nat} (h_ : Lab A g) : ∀ i j, i < A.N → j < A.N → g i = g j → A.wn i = A.wn j := h_.2.2

theorem Eqv.wn {A : Auto} {i j : Nat} (h : Eqv A i j) : A.wn i = A.wn j := by
  have := h [] (fun c hc => absurd hc (List.not_mem_nil))
  simpa [Auto.obs, Auto.run] using this
theorem Eqv.step {A : Auto} {i j c : Nat} (hc : c < 6) (h : Eqv A i j) : (A.to i c = 0 ↔ A.to j c = 0) ∧ (A.to i c ≠ 0 → Eqv A (A.to i c) (A.to j c)) := by
  have key : ∀ w, W6 w → A.obs i (c :: w) = A.obs j (c :: w) := fun w hw => h (c :: w) (fun d hd => (List.mem_cons.mp hd).elim (fun e => e ▸ hc) (fun m => hw d m))
  have h0 := key [] (fun c hc => absurd hc (List.not_mem_nil))
  unfold Auto.obs Auto.run at h0
  have hiff : A.to i c = 0 ↔ A.to j c = 0 := by
    by_cases a : A.to i c = 0 <;> by_cases b : A.to j c = 0
    · simp [a, b]
    · rw [if_pos a, if_neg b] at h0; simp [Auto.run] at h0
    · rw [if_neg a, if_pos b] at h0; simp [Auto.run] at h0
    · simp [a, b]
  refine ⟨hiff, fun a w hw => ?_⟩
  have b : A.to j c ≠ 0 := fun e => a (hiff.mpr e)
  have := key w hw
  unfold Auto.obs at this
  rw [Auto.run, Auto.run, if_neg a, if_neg b] at this
  exact this
theorem Lab.next {A : Auto} (hA : A.Ok) {g g' : Nat → Nat} (h : Lab A g) (hlt : ∀ i, i < A.N → g' i < 512) (he : ∀ i j, i < A.N → j < A.N → (g' i = g' j ↔ alike A g i j)) : Lab A g' := by
  refine ⟨hlt, fun i j hi hj e => ?_, fun i j hi hj e => h.wn i j hi hj ((he i j hi hj).mp e).1⟩
  exact (he i j hi hj).mpr ⟨h.co i j hi hj e, fun c hc => by
    have hti := hA.to i c hi hc
    have htj := hA.to j c hj hc
    have h1 := h.lt _ hti
    have h2 := h.lt _ htj
    rw [gA_iff (by omega) (by omega)]
    obtain ⟨q1, q2⟩ := e.step hc
    by_cases z : A.to i c = 0
    · exact Or.inl ⟨z, q1.mp z⟩
    · exact Or.inr ⟨z, fun y => z (q1.mpr y), h.co _ _ hti htj (q2 z)⟩⟩
/-- the states: labels by first occurrence, one for each program of nodes that nothing tells apart -/
def Mini (A : Auto) (g : Nat → Nat) (n : Nat) (s : Nat → Nat) : Prop :=
  (Canon A.N g n s) ∧
  (∀ i j, i < A.N → j < A.N → (g i = g j ↔ Eqv A i j))
theorem Mini.can {A : Auto} {g : Nat → Nat} {n : Nat} {s : Nat → Nat} (h_ : Mini A g n s) : Canon A.N g n s := h_.1
theorem Mini.eqv {A : Auto} {g : Nat → Nat} {n : Nat} {s : Nat → Nat} (h_ : Mini A g n s) : ∀ i j, i < A.N → j < A.N → (g i = g j ↔ Eqv A i j) := h_.2

theorem Mini.of {A : Auto} (hA : A.Ok) {g : Nat → Nat} {n : Nat} {s : Nat → Nat} (hl : Lab A g) (hc : Canon A.N g n s) (hs : ∀ i j, i < A.N → j < A.N → g i = g j → alike A g i j) : Mini A g n s := by
  refine ⟨hc, fun i j hi hj => ⟨fun e w => ?_, hl.co i j hi hj⟩⟩
  induction w generalizing i j with
  | nil =>
    intro _
    unfold Auto.obs Auto.run
    simp [hl.wn i j hi hj e]
  | cons c w ih =>
    intro hw
    have hc6 : c < 6 := hw c (List.mem_cons_self)
    have hti := hA.to i c hi hc6
    have htj := hA.to j c hj hc6
    have h1 := hl.lt _ hti
    have h2 := hl.lt _ htj
    have q := (hs i j hi hj e).2 c hc6
    rw [gA_iff (by omega) (by omega)] at q
    have ih' := fun e => ih (A.to i c) (A.to j c) hti htj e (fun d hd => hw d (List.mem_cons_of_mem _ hd))
    unfold Auto.obs at ih' ⊢
    rw [Auto.run, Auto.run]
    rcases q with ⟨a, b⟩ | ⟨a, b, e2⟩
    · rw [if_pos a, if_pos b]
    · rw [if_neg a, if_neg b]
      exact ih' e2
theorem Mini.uniq {A : Auto} {g g' s s' : Nat → Nat} {n n' : Nat} (h : Mini A g n s) (h' : Mini A g' n' s') : (∀ i, i < A.N → g i = g' i) ∧ n = n' ∧ ∀ k, k < n → s k = s' k := by
  obtain ⟨h1, h2⟩ := h.can.uniq h'.can (fun i j hi hj => (h.eqv i j hi hj).trans (h'.eqv i j hi hj).symm)
  refine ⟨h1, h2, fun k hk => ?_⟩
  subst h2
  exact h.can.samples h'.can h1 hk
theorem Mini.wn {A : Auto} {g s : Nat → Nat} {n : Nat} (h : Mini A g n s) {i j : Nat} (hi : i < A.N) (hj : j < A.N) (e : g i = g j) : A.wn i = A.wn j := ((h.eqv i j hi hj).mp e).wn
theorem Mini.step {A : Auto} (hA : A.Ok) {g s : Nat → Nat} {n : Nat} (h : Mini A g n s) {i j c : Nat} (hi : i < A.N) (hj : j < A.N) (hc : c < 6) (e : g i = g j) : gA g (A.to i c) = gA g (A.to j c) := by
  obtain ⟨q1, q2⟩ := ((h.eqv i j hi hj).mp e).step hc
  unfold gA
  by_cases z : A.to i c = 0
  · rw [if_pos z, if_pos (q1.mp z)]
  · rw [if_neg z, if_neg (fun y => z (q1.mpr y)), (h.eqv _ _ (hA.to i c hi hc) (hA.to j c hj hc)).mpr (q2 z)]
theorem Mini.smp {A : Auto} {g s : Nat → Nat} {n : Nat} (h : Mini A g n s) {k : Nat} (hk : k < A.N) : g k < n ∧ s (g k) < A.N ∧ g (s (g k)) = g k := ⟨h.can.2 k hk, (h.can.1 _ (h.can.2 k hk)).1, (h.can.1 _ (h.can.2 k hk)).2.1⟩
/-- a round of refinement: what it makes of labels g -/
def Fine (A : Auto) (g g' : Nat → Nat) (n : Nat) (s : Nat → Nat) : Prop :=
  (Canon A.N g' n s) ∧
  (∀ i j, i < A.N → j < A.N → (g' i = g' j ↔ alike A g i j))
theorem Fine.can {A : Auto} {g g' : Nat → Nat} {n : Nat} {s : Nat → Nat} (h_ : Fine A g g' n s) : Canon A.N g' n s := h_.1
theorem Fine.al {A : Auto} {g g' : Nat → Nat} {n : Nat} {s : Nat → Nat} (h_ : Fine A g g' n s) : ∀ i j, i < A.N → j < A.N → (g' i = g' j ↔ alike A g i j) := h_.2

theorem Fine.lab {A : Auto} (hA : A.Ok) {g g' s : Nat → Nat} {n : Nat} (h : Fine A g g' n s) (hl : Lab A g) : Lab A g' :=
  hl.next hA (fun i hi => by have := h.can.2 i hi; have := h.can.le; have := hA.le; omega) h.al
theorem Fine.pos {A : Auto} (hA : A.Ok) {g g' s : Nat → Nat} {n : Nat} (h : Fine A g g' n s) : 0 < n := by
  have := h.can.2 0 hA.pos; omega
theorem Fine.done {A : Auto} (hA : A.Ok) {g g' s s' : Nat → Nat} {n : Nat} (hl : Lab A g) (hc : Canon A.N g n s) (h : Fine A g g' n s') : Mini A g' n s' := by
  have e := hc.same h.can (fun i j hi hj q => ((h.al i j hi hj).mp q).1)
  refine Mini.of hA (h.lab hA hl) h.can (fun i j hi hj q => ?_)
  have := (h.al i j hi hj).mp q
  refine ⟨q, fun c hc6 => ?_⟩
  have hti := hA.to i c hi hc6
  have htj := hA.to j c hj hc6
  have q2 := this.2 c hc6
  unfold gA at q2 ⊢
  rw [e _ hti, e _ htj]
  exact q2
theorem Fine.grow {A : Auto} {g g' s s' : Nat → Nat} {n n' : Nat} (hc : Canon A.N g n s) (h : Fine A g g' n' s') : n ≤ n' :=
  hc.mono h.can (fun i j hi hj q => ((h.al i j hi hj).mp q).1)
