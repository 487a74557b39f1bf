/-! What is asked: states, next, winner, never, distance, differ, differing of both -/
theorem md3 {x1 : Int32} (z : x1 = 0 ∨ x1 = 1 ∨ x1 = 2) : ∃ M, M < 3 ∧ x1 = nI M := by
  rcases z with z | z | z
  · exact ⟨0, by omega, z⟩
  · exact ⟨1, by omega, z⟩
  · exact ⟨2, by omega, z⟩
theorem md3n {x1 : Int32} (z : ¬ (x1 = 0 ∨ x1 = 1 ∨ x1 = 2)) {M : Nat} (hM : M < 3) (e : x1 = nI M) : False := by
  apply z
  subst e
  rcases (by omega : M = 0 ∨ M = 1 ∨ M = 2) with y | y | y <;> subst y
  · exact Or.inl rfl
  · exact Or.inr (Or.inl rfl)
  · exact Or.inr (Or.inr rfl)
/-- by the mode -/
theorem md3c {M : Nat} (hM : M < 3) {A : Nat → Prop} (h : A M) : (nI M = 0 → A 0) ∧ (nI M = 1 → A 1) ∧ (nI M = 2 → A 2) ∧ (¬ nI M = 0 → ¬ nI M = 1 → ¬ nI M = 2 → False) := by
  have e : ∀ k, k < 3 → nI M = nI k → A k := fun k hk q => by
    have := (nI_eq (by omega) (by omega)).mp q
    subst this
    exact h
  refine ⟨fun q => e 0 (by omega) q, fun q => e 1 (by omega) q, fun q => e 2 (by omega) q, fun a b c => ?_⟩
  exact md3n (x1 := nI M) (fun q => by
    rcases q with q | q | q
    · exact a q
    · exact b q
    · exact c q) hM rfl
theorem q2_n512 {D : Nat → Md} {G : Nat → Nat → Nat} {n : Nat → Nat} {s : Nat → Nat → Nat} {fa fw : Nat → Nat → Int32} {R : Nat} {many lts be mo fs ls : Nat → Int32} (T : RT D G n s R many lts be mo fs ls) (hMa : ∀ M, M < 3 → Mach (D M).au (G M) (n M) (s M) (fa M) (fw M)) {ma no se st gr sa gs : Nat → Int32} (K : RK D G n s ma no se st gr sa gs) {M : Nat} (hM : M < 3) : n M ≤ 512 ∧ 0 < n M := by
  have hA := au_ok (T.dok M hM)
  have h := T.mi M hM
  have h1 := h.can.le
  have h2 := h.can.2 0 hA.pos
  have h3 := hA.le
  omega
theorem q2_states {D : Nat → Md} {G : Nat → Nat → Nat} {n : Nat → Nat} {s : Nat → Nat → Nat} {fa fw : Nat → Nat → Int32} {R : Nat} {many lts be mo fs ls : Nat → Int32} (T : RT D G n s R many lts be mo fs ls) (hMa : ∀ M, M < 3 → Mach (D M).au (G M) (n M) (s M) (fa M) (fw M)) {ma no se st gr sa fr gs : Nat → Int32} (K : RK D G n s ma no se st gr sa gs) {x1 : Int32} {post : Int32 → Prop}
    (hp : ∀ r, (∀ pm : _, (∀ b1 b2 b3 b4 b5 b6 b7 b8, RK D G n s b1 b2 b3 b4 b5 b6 b8 → pm r 0 b1 b2 b3 b4 b5 b6 b7 b8) → p_M_states (nI R) ma no mo fs many se be lts st ls gr sa fr gs x1 pm) → post r) : p_TB_states (n 0) (n 1) (n 2) x1 post := by
  refine q_isMode (fun z => ⟨fun y => absurd y (by decide), fun _ => ?_⟩) (fun z => ⟨fun _ => hp _ (fun pm hm => q_M_states T K (fun M hM e => absurd (md3n z hM e) id) (fun _ b1 b2 b3 b4 b5 b6 b7 b8 K' => hm _ _ _ _ _ _ _ _ K')), fun y => absurd rfl y⟩)
  obtain ⟨M, hM, e⟩ := md3 z
  subst e
  refine md3c (A := fun k => post (nI (n k))) hM (hp _ (fun pm hm => q_M_states T K (fun M' hM' e b1 b2 b3 b4 b5 b6 b7 b8 K' => ?_) (fun q => absurd rfl (q M hM))))
  have := (nI_eq (by omega) (by omega)).mp e
  subst this
  exact hm _ _ _ _ _ _ _ _ K'
theorem q2_next {D : Nat → Md} {G : Nat → Nat → Nat} {n : Nat → Nat} {s : Nat → Nat → Nat} {fa fw : Nat → Nat → Int32} {R : Nat} {many lts be mo fs ls : Nat → Int32} (T : RT D G n s R many lts be mo fs ls) (hMa : ∀ M, M < 3 → Mach (D M).au (G M) (n M) (s M) (fa M) (fw M)) {ma no se st gr sa fr gs : Nat → Int32} (K : RK D G n s ma no se st gr sa gs) {x1 x2 x3 : Int32} {post : Int32 → Prop}
    (hp : ∀ r, (∀ pm : _, (∀ b1 b2 b3 b4 b5 b6 b7 b8, RK D G n s b1 b2 b3 b4 b5 b6 b8 → pm r 0 b1 b2 b3 b4 b5 b6 b7 b8) → p_M_next (nI R) ma no mo fs many se be lts st ls gr sa fr gs x1 x2 x3 pm) → post r) : p_TB_next (n 0) (6 * n 0) (fa 0) (n 1) (6 * n 1) (fa 1) (n 2) (6 * n 2) (fa 2) x1 x2 x3 post := by
  refine q_isMode (fun z => ⟨fun y => absurd y (by decide), fun _ => ?_⟩) (fun z => ⟨fun _ => hp _ (fun pm hm => q_M_next T K hMa (fun M hM e => absurd (md3n z hM e) id) (fun _ b1 b2 b3 b4 b5 b6 b7 b8 K' => hm _ _ _ _ _ _ _ _ K')), fun y => absurd rfl y⟩)
  obtain ⟨M, hM, e⟩ := md3 z
  subst e
  refine md3c (A := fun k => p_Machine_after (n k) (6 * n k) (fa k) x2 x3 post) hM (q_after (q2_n512 T hMa K hM).1 (hp _ (fun pm hm => q_M_next T K hMa (fun M' hM' e b1 b2 b3 b4 b5 b6 b7 b8 K' => ?_) (fun q => absurd rfl (q M hM)))))
  have := (nI_eq (by omega) (by omega)).mp e
  subst this
  exact hm _ _ _ _ _ _ _ _ K'
theorem q2_winner {D : Nat → Md} {G : Nat → Nat → Nat} {n : Nat → Nat} {s : Nat → Nat → Nat} {fa fw : Nat → Nat → Int32} {R : Nat} {many lts be mo fs ls : Nat → Int32} (T : RT D G n s R many lts be mo fs ls) (hMa : ∀ M, M < 3 → Mach (D M).au (G M) (n M) (s M) (fa M) (fw M)) {ma no se st gr sa fr gs : Nat → Int32} (K : RK D G n s ma no se st gr sa gs) {x1 x2 : Int32} {post : Int32 → Prop}
    (hp : ∀ r, (∀ pm : _, (∀ b1 b2 b3 b4 b5 b6 b7 b8, RK D G n s b1 b2 b3 b4 b5 b6 b8 → pm r 0 b1 b2 b3 b4 b5 b6 b7 b8) → p_M_winner (nI R) ma no mo fs many se be lts st ls gr sa fr gs x1 x2 pm) → post r) : p_TB_winner (n 0) (fw 0) (n 1) (fw 1) (n 2) (fw 2) x1 x2 post := by
  refine q_isMode (fun z => ⟨fun y => absurd y (by decide), fun _ => ?_⟩) (fun z => ⟨fun _ => hp _ (fun pm hm => q_M_winner T K hMa (fun M hM e => absurd (md3n z hM e) id) (fun _ b1 b2 b3 b4 b5 b6 b7 b8 K' => hm _ _ _ _ _ _ _ _ K')), fun y => absurd rfl y⟩)
  obtain ⟨M, hM, e⟩ := md3 z
  subst e
  refine md3c (A := fun k => p_Machine_winnerOf (n k) (fw k) x2 post) hM (q_winnerOf (q2_n512 T hMa K hM).1 (hp _ (fun pm hm => q_M_winner T K hMa (fun M' hM' e b1 b2 b3 b4 b5 b6 b7 b8 K' => ?_) (fun q => absurd rfl (q M hM)))))
  have := (nI_eq (by omega) (by omega)).mp e
  subst this
  exact hm _ _ _ _ _ _ _ _ K'
theorem q2_never {D : Nat → Md} {G : Nat → Nat → Nat} {n : Nat → Nat} {s : Nat → Nat → Nat} {fa fw : Nat → Nat → Int32} {R : Nat} {many lts be mo fs ls : Nat → Int32} (T : RT D G n s R many lts be mo fs ls) (hMa : ∀ M, M < 3 → Mach (D M).au (G M) (n M) (s M) (fa M) (fw M)) {ma no se st gr sa fr gs : Nat → Int32} (K : RK D G n s ma no se st gr sa gs) (hR : R ≤ 16) {moc : Nat → Int32} (hmo : ∀ r, r < R → moc r = mo r ∧ ∃ M, M < 3 ∧ mo r = nI M) {x1 : Int32} {post : Int32 → Prop}
    (hp : ∀ r, (∀ pm : _, (∀ b1 b2 b3 b4 b5 b6 b7 b8, RK D G n s b1 b2 b3 b4 b5 b6 b8 → pm r 0 b1 b2 b3 b4 b5 b6 b7 b8) → p_M_never (nI R) mo ma no fs many se be lts st ls gr sa fr gs x1 pm) → post r) : p_TB_never (nI R) moc (n 0) (fw 0) (n 1) (fw 1) (n 2) (fw 2) x1 post := by
  have bad : (x1 < 0 ∨ nI R ≤ x1) → post 0 := fun z => hp _ (fun pm hm => q_M_never T K hMa (fun r hr => (hmo r hr).2) (fun r hr e => by
    exfalso
    subst e
    rcases z with z | z
    · exact nI_pos (by omega) z
    · exact nI_ge hr (by omega) z) (fun _ b1 b2 b3 b4 b5 b6 b7 b8 K' => hm _ _ _ _ _ _ _ _ K'))
  refine ⟨fun z => ⟨fun _ => bad (Or.inl z), fun y => absurd rfl y⟩, fun z => ⟨fun z2 => ⟨fun _ => bad (Or.inr z2), fun y => absurd rfl y⟩, fun z2 => ⟨fun y => absurd y (by decide), fun _ => ?_⟩⟩⟩
  obtain ⟨r, hr, e⟩ : ∃ r, r < R ∧ x1 = nI r := by
    rcases pk_ix x1 (n := R) (by omega) with y | y | y
    · exact absurd y z
    · exact absurd y z2
    · exact y
  subst e
  obtain ⟨em, M, hM, eM⟩ := hmo r hr
  refine ⟨vp_in_nI (by omega) (by omega), ?_⟩
  show ((moc (nI r).toNatClampNeg) = 0 → _) ∧ _
  rw [nI_clamp (by omega), em, eM]
  refine md3c (A := fun k => p_Machine_everWins (n k) (fw k) (nI r) (fun r3 => ((¬ r3 = 0 → (post 0)) ∧ (r3 = 0 → (post 1))))) hM ?_
  refine q_everWins (q2_n512 T hMa K hM).1 (fun hw => ⟨fun _ => hp _ (fun pm hm => q_M_never T K hMa (fun r hr => (hmo r hr).2) (fun r' hr' e M' hM' eM' b1 b2 b3 b4 b5 b6 b7 b8 K' => ?_) (fun q => ?_)), fun y => absurd y (by decide)⟩) (fun hw => ⟨fun y => absurd rfl y, fun _ => hp _ (fun pm hm => q_M_never T K hMa (fun r hr => (hmo r hr).2) (fun r' hr' e M' hM' eM' b1 b2 b3 b4 b5 b6 b7 b8 K' => ?_) (fun q => ?_))⟩)
  · have e' := (nI_eq (by omega) (by omega)).mp e
    subst e'
    have e2 := (nI_eq (by omega) (by omega)).mp (eM.symm.trans eM')
    subst e2
    exact ⟨fun _ => hm _ _ _ _ _ _ _ _ K', fun q => by
      obtain ⟨i, hi, e⟩ := hw
      exact absurd e (q i hi)⟩
  · exfalso
    rcases q with y | y
    · exact z y
    · exact z2 y
  · have e' := (nI_eq (by omega) (by omega)).mp e
    subst e'
    have e2 := (nI_eq (by omega) (by omega)).mp (eM.symm.trans eM')
    subst e2
    exact ⟨fun q => by
      obtain ⟨i, hi, e⟩ := q
      exact absurd e (hw i hi), fun _ => hm _ _ _ _ _ _ _ _ K'⟩
  · exfalso
    rcases q with y | y
    · exact z y
    · exact z2 y
/-- a mode's distance is right where it is known -/
def WG (A : Auto) (g : Nat → Nat) (n : Nat) (s : Nat → Nat) (gap kn : Int32) : Prop := ¬ kn = 0 → GapS (Ed n (trq A g s)) (Wn n (wq A s)) n gap
theorem q_M_dist {D : Nat → Md} {G : Nat → Nat → Nat} {n : Nat → Nat} {s : Nat → Nat → Nat} {fa fw : Nat → Nat → Int32} {R : Nat} {many lts be mo fs ls : Nat → Int32} (T : RT D G n s R many lts be mo fs ls) (hMa : ∀ M, M < 3 → Mach (D M).au (G M) (n M) (s M) (fa M) (fw M)) {ma no se st gr sa fr gs : Nat → Int32} (K : RK D G n s ma no se st gr sa gs) {M : Nat} (hM : M < 3) {r : Int32} (hG : GapS (EA (D M).au) (WA (D M).au) (D M).au.N r) {nw th : Nat → Int32} {pm : _} (hm : ∀ b1 b2 b3 b4 b5 b6 b7 b8 c1 c2, RK D G n s b1 b2 b3 b4 b5 b6 b8 → pm r 0 b1 b2 b3 b4 b5 b6 b7 b8 c1 c2) : p_M_distance (nI R) ma no mo fs many se be lts st ls gr sa fr gs nw th (nI M) pm := by
  refine q_M_isMode (fun M' hM' e => ⟨fun _ => ?_, fun y => absurd y (by decide)⟩) (fun q => absurd rfl (q M hM))
  refine q_M_makeA T K hM (fun ma' no' se' st' gr' sa' fr' gs' K' hRM _ _ => ?_)
  exact q_dist22 (T.dok M hM) (T.rd M hM) hRM.rs hG (fun nw' th' => hm _ _ _ _ _ _ _ _ _ _ K')
theorem q2_dist {D : Nat → Md} {G : Nat → Nat → Nat} {n : Nat → Nat} {s : Nat → Nat → Nat} {fa fw : Nat → Nat → Int32} {R : Nat} {many lts be mo fs ls : Nat → Int32} (T : RT D G n s R many lts be mo fs ls) (hMa : ∀ M, M < 3 → Mach (D M).au (G M) (n M) (s M) (fa M) (fw M)) {ma no se st gr sa fr gs : Nat → Int32} (K : RK D G n s ma no se st gr sa gs) {M : Nat} (hM : M < 3) {gap kn : Int32} (hg : WG (D M).au (G M) (n M) (s M) gap kn) {nw th : Nat → Int32} {post : Int32 → Int32 → Int32 → Prop}
    (hp : ∀ r a b, WG (D M).au (G M) (n M) (s M) a b → (∀ pm : _, (∀ b1 b2 b3 b4 b5 b6 b7 b8 c1 c2, RK D G n s b1 b2 b3 b4 b5 b6 b8 → pm r 0 b1 b2 b3 b4 b5 b6 b7 b8 c1 c2) → p_M_distance (nI R) ma no mo fs many se be lts st ls gr sa fr gs nw th (nI M) pm) → post r a b) : p_Machine_widestGap gap kn (n M) (fw M) (6 * n M) (fa M) post := by
  have hA := au_ok (T.dok M hM)
  have hmi := T.mi M hM
  refine q_widestGap (QM.of hA hmi (hMa M hM)) hg (fun r hr k' _ => hp _ _ _ (fun _ => hr) (fun pm hm => ?_))
  exact q_M_dist T hMa K hM (GapS.nodes hA hmi hr) hm
theorem q2_distX {D : Nat → Md} {G : Nat → Nat → Nat} {n : Nat → Nat} {s : Nat → Nat → Nat} {fa fw : Nat → Nat → Int32} {R : Nat} {many lts be mo fs ls : Nat → Int32} (T : RT D G n s R many lts be mo fs ls) (hMa : ∀ M, M < 3 → Mach (D M).au (G M) (n M) (s M) (fa M) (fw M)) {ma no se st gr sa fr gs : Nat → Int32} (K : RK D G n s ma no se st gr sa gs) {x1 : Int32} (hx : ¬ (x1 = 0 ∨ x1 = 1 ∨ x1 = 2)) {nw th : Nat → Int32} {post : Int32 → Prop} (hp : (∀ pm : _, pm (-2) 0 ma no se st gr sa fr gs nw th → p_M_distance (nI R) ma no mo fs many se be lts st ls gr sa fr gs nw th x1 pm) → post (-2)) : p_TB_distanceX x1 post := by
  refine q_isMode (fun z => absurd z hx) (fun _ => ⟨fun _ => hp (fun pm hm => q_M_isMode (fun M hM e => absurd (md3n hx hM e) id) (fun _ => ⟨fun y => absurd rfl y, fun _ => hm⟩)), fun y => absurd rfl y⟩)