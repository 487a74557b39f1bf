/-! The reference: distance -/
/-- steps and winners of an automaton's nodes -/
def EA (A : Auto) (a b : Nat) : Prop := a < A.N ∧ b < A.N ∧ b ≠ 0 ∧ ∃ c, c < 6 ∧ A.to a c = b
def WA (A : Auto) (k : Nat) : Prop := k < A.N ∧ A.wn k ≠ -1
theorem Nw_lt {A : Auto} : ∀ {m k}, Nw (EA A) (WA A) m k → k < A.N := by
  intro m k h
  cases m with
  | zero => exact h.1
  | succ m => obtain ⟨⟨y, -, e⟩, -⟩ := h; exact e.2.1
theorem Nw_empty {E : Nat → Nat → Prop} {W : Nat → Prop} {m : Nat} (h : ∀ x, ¬ Nw E W m x) : ∀ d x, ¬ Nw E W (m + d) x := by
  intro d
  induction d with
  | zero => exact h
  | succ d ih => rintro x ⟨⟨y, hy, -⟩, -⟩; exact ih y hy
/-- the states' steps -/
def trq (A : Auto) (g s : Nat → Nat) (h c : Nat) : Option Nat := if A.to (s h) c = 0 then none else some (g (A.to (s h) c))
def wq (A : Auto) (s : Nat → Nat) (h : Nat) : Prop := A.wn (s h) ≠ -1
theorem QM.of {A : Auto} (hA : A.Ok) {g s : Nat → Nat} {n : Nat} {fa fw : Nat → Int32} (hM : Mini A g n s) (h : Mach A g n s fa fw) : QM n fa fw (trq A g s) (wq A s) := by
  have hle := hA.le
  have hn := hM.can.le
  refine ⟨by omega, fun q c hq hc e => ?_, fun q c q' hq hc e => ?_, fun q hq => ?_⟩
  · rw [h.a q c hq hc]
    unfold trq at e
    unfold gA
    split at e
    · rename_i z; rw [if_pos z]
    · cases e
  · rw [h.a q c hq hc]
    unfold trq at e
    unfold gA
    split at e
    · cases e
    · rename_i z
      rw [if_neg z]
      have e := Option.some.inj e
      rw [e]
      refine ⟨?_, rfl⟩
      rw [← e]
      exact hM.can.2 _ (hA.to _ c (hM.can.1 q hq).1 hc)
  · rw [h.w q hq]
    unfold wq
    exact ⟨fun z y => y z, fun z => Classical.byContradiction z⟩
theorem wq_iff {A : Auto} (hA : A.Ok) {g s : Nat → Nat} {n : Nat} (hM : Mini A g n s) {k : Nat} (hk : k < A.N) : Wn n (wq A s) (g k) ↔ WA A k := by
  obtain ⟨h1, h2, h3⟩ := hM.smp hk
  unfold Wn wq WA
  rw [hM.wn h2 hk h3]
  exact ⟨fun z => ⟨hk, z.2⟩, fun z => ⟨h1, z.2⟩⟩
theorem Nw_to {A : Auto} (hA : A.Ok) {g s : Nat → Nat} {n : Nat} (hM : Mini A g n s) : ∀ m k, Nw (EA A) (WA A) m k → Nw (Ed n (trq A g s)) (Wn n (wq A s)) m (g k) := by
  intro m
  induction m with
  | zero => intro k h; exact (wq_iff hA hM h.1).mpr h
  | succ m ih =>
    rintro k ⟨⟨y, hy, a1, a2, a3, c, hc, e⟩, hw⟩
    obtain ⟨h1, h2, h3⟩ := hM.smp a1
    refine ⟨⟨g y, ih y hy, h1, hM.can.2 k a2, c, hc, ?_⟩, fun z => hw ((wq_iff hA hM a2).mp z)⟩
    unfold trq
    have hto : A.to (s (g y)) c ≠ 0 := fun z => by
      have q := hM.step hA h2 a1 hc h3
      unfold gA at q
      rw [if_pos z, e, if_neg a3] at q
      have := hM.can.2 k a2
      have := hM.can.le
      have := hA.le
      exact nI_nm1 (by omega) q.symm
    rw [if_neg hto, hM.gto hA h2 a1 hc h3, e]
theorem Nw_of {A : Auto} (hA : A.Ok) {g s : Nat → Nat} {n : Nat} (hM : Mini A g n s) : ∀ m h, Nw (Ed n (trq A g s)) (Wn n (wq A s)) m h → ∃ k, k < A.N ∧ g k = h ∧ Nw (EA A) (WA A) m k := by
  intro m
  induction m with
  | zero =>
    intro h hh
    obtain ⟨a1, a2, -⟩ := hM.can.1 h hh.1
    refine ⟨s h, a1, a2, (wq_iff hA hM a1).mp ?_⟩
    rw [a2]; exact hh
  | succ m ih =>
    rintro h ⟨⟨y, hy, a1, a2, c, hc, e⟩, hw⟩
    obtain ⟨k, hk, ek, hN⟩ := ih y hy
    obtain ⟨b1, b2, -⟩ := hM.can.1 y a1
    unfold trq at e
    split at e
    · cases e
    · rename_i z
      have e := Option.some.inj e
      have q := hM.step hA b1 hk hc (by rw [b2, ek])
      have ht := hA.to k c hk hc
      have hto : A.to k c ≠ 0 := fun y0 => by
        unfold gA at q
        rw [if_neg z, if_pos y0] at q
        have := hM.can.2 _ (hA.to _ c b1 hc)
        have := hM.can.le
        have := hA.le
        exact nI_nm1 (by omega) q
      have hg : g (A.to k c) = h := by
        rw [← hM.gto hA b1 hk hc (by rw [b2, ek])]; exact e
      refine ⟨A.to k c, ht, hg, ⟨k, hN, hk, ht, hto, c, hc, rfl⟩, fun z2 => hw ?_⟩
      have := (wq_iff hA hM ht).mpr z2
      rw [hg] at this
      exact this
theorem GapS.nodes {A : Auto} (hA : A.Ok) {g s : Nat → Nat} {n : Nat} (hM : Mini A g n s) {r : Int32} (h : GapS (Ed n (trq A g s)) (Wn n (wq A s)) n r) : GapS (EA A) (WA A) A.N r := by
  have hn := hM.can.le
  have key : ∀ m, (∃ y x, Nw (EA A) (WA A) m y ∧ EA A y x ∧ WA A x) ↔ ∃ y x, Nw (Ed n (trq A g s)) (Wn n (wq A s)) m y ∧ Ed n (trq A g s) y x ∧ Wn n (wq A s) x := by
    intro m
    constructor
    · rintro ⟨y, x, h1, ⟨a1, a2, a3, c, hc, e⟩, h3⟩
      obtain ⟨q1, q2, q3⟩ := hM.smp a1
      refine ⟨g y, g x, Nw_to hA hM m y h1, ⟨q1, hM.can.2 x a2, c, hc, ?_⟩, (wq_iff hA hM a2).mpr h3⟩
      unfold trq
      have hto : A.to (s (g y)) c ≠ 0 := fun z => by
        have q := hM.step hA q2 a1 hc q3
        unfold gA at q
        rw [if_pos z, e, if_neg a3] at q
        have := hM.can.2 x a2
        have := hA.le
        exact nI_nm1 (by omega) q.symm
      rw [if_neg hto, hM.gto hA q2 a1 hc q3, e]
    · rintro ⟨y, x, h1, ⟨a1, a2, c, hc, e⟩, h3⟩
      obtain ⟨k, hk, ek, hN⟩ := Nw_of hA hM m y h1
      obtain ⟨b1, b2, -⟩ := hM.can.1 y a1
      unfold trq at e
      split at e
      · cases e
      · rename_i z
        have e := Option.some.inj e
        have q := hM.step hA b1 hk hc (by rw [b2, ek])
        have ht := hA.to k c hk hc
        have hto : A.to k c ≠ 0 := fun y0 => by
          unfold gA at q
          rw [if_neg z, if_pos y0] at q
          have := hM.can.2 _ (hA.to _ c b1 hc)
          have := hA.le
          exact nI_nm1 (by omega) q
        have hg : g (A.to k c) = x := by
          rw [← hM.gto hA b1 hk hc (by rw [b2, ek])]; exact e
        refine ⟨k, A.to k c, hN, ⟨hk, ht, hto, c, hc, rfl⟩, (wq_iff hA hM ht).mp ?_⟩
        rw [hg]; exact h3
  rcases h with ⟨rfl, h⟩ | ⟨b, hb, rfl, ⟨h1, h2⟩, he⟩
  · refine Or.inl ⟨rfl, fun m => ?_⟩
    obtain ⟨x, hx⟩ := h m
    obtain ⟨k, -, -, hk⟩ := Nw_of hA hM m x hx
    exact ⟨k, hk⟩
  · refine Or.inr ⟨b, by omega, rfl, ⟨?_, fun m y x a1 a2 a3 => ?_⟩, fun x hx => ?_⟩
    · rcases h1 with z | ⟨m, y, x, e, a1, a2, a3⟩
      · exact Or.inl z
      · obtain ⟨y', x', c1, c2, c3⟩ := (key m).mpr ⟨y, x, a1, a2, a3⟩
        exact Or.inr ⟨m, y', x', e, c1, c2, c3⟩
    · obtain ⟨y', x', c1, c2, c3⟩ := (key m).mp ⟨y, x, a1, a2, a3⟩
      exact h2 m y' x' c1 c2 c3
    · have := Nw_to hA hM _ _ hx
      rw [show A.N + 1 = n + 1 + (A.N - n) by omega] at this
      exact Nw_empty he _ _ this
/-- the best so far: gaps of less than m letters -/
def BM (A : Auto) (m b : Nat) : Prop := (b = 0 ∨ ∃ m0 y x, b = m0 + 1 ∧ m0 + 1 < m ∧ Nw (EA A) (WA A) m0 y ∧ EA A y x ∧ WA A x) ∧ ∀ m0 y x, m0 + 1 < m → Nw (EA A) (WA A) m0 y → EA A y x → WA A x → m0 + 1 ≤ b
/-- a row of marks -/
def Mk (N : Nat) (f : Nat → Int32) (P : Nat → Prop) : Prop := ∀ k, k < N → (f k = 0 ↔ ¬ P k)
theorem q_M_winsN {D : Md} (hD : DOk D) {M R : Nat} {many lt behind mo fs ls : Nat → Int32} (H : RefMd D M R many lt behind mo fs ls) {no se st : Nat → Int32} (hS : RS D M no se st) {k : Nat} (hk : k < D.au.N) {post : Int32 → Prop} (hp : post (D.au.wn k)) : p_M_wins (nI R) mo se ls (nI M) (nI k) post := by
  have ok := (D.sets_ok hD.hP).ok
  have hle := (au_ok hD).le
  exact q_M_wins H (s := nd D.sets k) (by omega) (fun hpos => hS.se k hpos hk) (fun e => by rw [e]; exact ok.z) (ok.s9 _ (nd_mem hk)) hp
theorem q_dist231 {D : Md} (hD : DOk D) {M R : Nat} {many lt behind mo fs ls : Nat → Int32} (H : RefMd D M R many lt behind mo fs ls) {no se st : Nat → Int32} (hS : RS D M no se st) {post K63 K183 : _} {l2 l3 l4 l6 co : Int32} {ma gr sa fr gs nw th : Nat → Int32} {i : Nat} (hi : i < 514) (h4 : l4 = 0 ∨ l4 = 1)
    (hp : ∀ nv, nv = (if ¬ th i = 0 ∧ l6 = 0 then (1 : Int32) else 0) → K183 l2 l3 (if l4 = 0 ∧ nv = 0 then 0 else 1) (nI i + 1) co ma no se st gr sa fr gs (upd nw i nv) th) : p_M_distance_231 post K63 K183 l2 l3 l4 (nI i) l6 co ma no se st gr sa fr gs nw th := by
  have hin : vp_in (nI i) 514 := vp_in_nI hi (by omega)
  unfold p_M_distance_231 p_M_distance_275
  rw [nI_clamp (n := i) (by omega), nar0, nar1, pk_us, pk_us]
  have g0 : ∀ nv, nv = (if ¬ th i = 0 ∧ l6 = 0 then (1 : Int32) else 0) → (¬ l4 = 0 → K183 l2 l3 1 (nI i + 1) co ma no se st gr sa fr gs (upd nw i nv) th) ∧ (l4 = 0 → (vp_in (nI i) 514 ∧ ((nv = 0 → K183 l2 l3 0 (nI i + 1) co ma no se st gr sa fr gs (upd nw i nv) th) ∧ (¬ nv = 0 → K183 l2 l3 1 (nI i + 1) co ma no se st gr sa fr gs (upd nw i nv) th)))) := fun nv e => by
    have := hp nv e
    refine ⟨fun z => ?_, fun z => ⟨hin, fun y => ?_, fun y => ?_⟩⟩
    · rw [if_neg (fun q => z q.1)] at this; exact this
    · rw [if_pos ⟨z, y⟩] at this; exact this
    · rw [if_neg (fun q => y q.2)] at this; exact this
  refine ⟨hin, fun z => ⟨hin, g0 0 (by rw [if_neg (fun q => q.1 z)])⟩, fun z => ⟨fun y => ⟨hin, g0 0 (by rw [if_neg (fun q => y q.2)])⟩, fun y => ⟨hin, g0 1 (by rw [if_pos ⟨z, y⟩])⟩⟩⟩