/-! differ, differing of both -/
/-- the last comparison of the program, in terms of its machines -/
def CRm (D : Nat → Md) (G : Nat → Nat → Nat) (s : Nat → Nat → Nat) (a b : Nat) (pairs len : Int32) (be lt : Nat → Int32) : Prop := CR (trq (D a).au (G a) (s a)) (wq (D a).au (s a)) (trq (D b).au (G b) (s b)) (wq (D b).au (s b)) pairs len be lt
def WC (D : Nat → Md) (G : Nat → Nat → Nat) (s : Nat → Nat → Nat) (pairs len one other : Int32) (be lt : Nat → Int32) : Prop := ∀ a b, a < 3 → b < 3 → one = nI a → other = nI b → CRm D G s a b pairs len be lt
/-- none is kept -/
theorem WC.none {D : Nat → Md} {G : Nat → Nat → Nat} {s : Nat → Nat → Nat} {pairs len other : Int32} {be lt : Nat → Int32} : WC D G s pairs len (-1) other be lt := fun a b ha hb e _ => absurd e.symm (nI_nm1 (by omega))
theorem cd_inj2 {w w' : List Nat} (h : W6 w) (h' : W6 w') (e : cd w = cd w') : w = w' := by
  rcases Nat.lt_trichotomy w.length w'.length with z | z | z
  · have := cd_shorter h h' z; omega
  · exact cd_inj _ w w' z rfl h h' e
  · have := cd_shorter h' h z; omega
theorem tq_iff {D : Nat → Md} {G : Nat → Nat → Nat} {n : Nat → Nat} {s : Nat → Nat → Nat} {fa fw : Nat → Nat → Int32} {R : Nat} {many lts be mo fs ls : Nat → Int32} (T : RT D G n s R many lts be mo fs ls) (hMa : ∀ M, M < 3 → Mach (D M).au (G M) (n M) (s M) (fa M) (fw M)) {ma no se st gr sa gs : Nat → Int32} (K : RK D G n s ma no se st gr sa gs) {a b : Nat} (ha : a < 3) (hb : b < 3) {w : List Nat} (hw : W6 w) : tellq (trq (D a).au (G a) (s a)) (wq (D a).au (s a)) (trq (D b).au (G b) (s b)) (wq (D b).au (s b)) (some 0) (some 0) w ↔ tellq (trn (D a).au) (wnp (D a).au) (trn (D b).au) (wnp (D b).au) (some 0) (some 0) w := by
  unfold tellq
  rw [mw_run (au_ok (T.dok a ha)) (T.mi a ha) hw, mw_run (au_ok (T.dok b hb)) (T.mi b hb) hw]
theorem CRm.diff {D : Nat → Md} {G : Nat → Nat → Nat} {n : Nat → Nat} {s : Nat → Nat → Nat} {fa fw : Nat → Nat → Int32} {R : Nat} {many lts be mo fs ls : Nat → Int32} (T : RT D G n s R many lts be mo fs ls) (hMa : ∀ M, M < 3 → Mach (D M).au (G M) (n M) (s M) (fa M) (fw M)) {ma no se st gr sa gs : Nat → Int32} (K : RK D G n s ma no se st gr sa gs) {a b : Nat} (ha : a < 3) (hb : b < 3) {pairs len : Int32} {be lt : Nat → Int32} (h : CRm D G s a b pairs len be lt) : DiffR (tellq (trn (D a).au) (wnp (D a).au) (trn (D b).au) (wnp (D b).au) (some 0) (some 0)) len := by
  obtain ⟨P, u, hP, hP2, -, hQ, hr⟩ := h
  rcases hr with ⟨e, hn⟩ | ⟨e, ht, hm⟩
  · exact Or.inl ⟨e, fun w hw q => hn w hw ((tq_iff T hMa K ha hb hw).mpr q)⟩
  · have w6 := hQ.w6 (P - 1) (by omega)
    have hl := hQ.len (P - 1) (by omega)
    exact Or.inr ⟨u (P - 1), w6, (tq_iff T hMa K ha hb w6).mp ht, fun w hw q => hm w hw ((tq_iff T hMa K ha hb hw).mpr q), e, by omega⟩
theorem q_compared {D : Nat → Md} {G : Nat → Nat → Nat} {n : Nat → Nat} {s : Nat → Nat → Nat} {fa fw : Nat → Nat → Int32} {R : Nat} {many lts be mo fs ls : Nat → Int32} (T : RT D G n s R many lts be mo fs ls) (hMa : ∀ M, M < 3 → Mach (D M).au (G M) (n M) (s M) (fa M) (fw M)) {ma no se st gr sa gs : Nat → Int32} (K : RK D G n s ma no se st gr sa gs) {pairs len one other : Int32} {ld le ri bf lt : Nat → Int32} (hC : WC D G s pairs len one other bf lt) {x1 x2 : Int32} {post : _}
    (h1 : ∀ a b, a < 3 → b < 3 → x1 = nI a → x2 = nI b → ∀ pairs' len' one' other' ld' le' ri' bf' lt', WC D G s pairs' len' one' other' bf' lt' → CRm D G s a b pairs' len' bf' lt' → post 1 pairs' len' one' other' ld' le' ri' bf' lt')
    (h0 : ((∀ M, M < 3 → x1 ≠ nI M) ∨ (∀ M, M < 3 → x2 ≠ nI M)) → post 0 pairs len one other ld le ri bf lt) :
    p_TB_compared pairs len one other ld le ri bf lt (n 0) (fw 0) (6 * n 0) (fa 0) (n 1) (fw 1) (6 * n 1) (fa 1) (n 2) (fw 2) (6 * n 2) (fa 2) x1 x2 post := by
  refine q_isMode (fun z => ⟨fun y => absurd y (by decide), fun _ => q_isMode (fun z2 => ⟨fun _ => ?_, fun y => absurd y (by decide)⟩) (fun z2 => ⟨fun y => absurd rfl y, fun _ => h0 (Or.inr (fun M hM e => md3n z2 hM e))⟩)⟩) (fun z => ⟨fun _ => h0 (Or.inl (fun M hM e => md3n z hM e)), fun y => absurd rfl y⟩)
  obtain ⟨a, ha, ea⟩ := md3 z
  obtain ⟨b, hb, eb⟩ := md3 z2
  subst ea eb
  have go : ∀ P : Int32 → Prop, ((¬ (one = nI a ∧ other = nI b)) → P 0) → (one = nI a → other = nI b → P 1) → p_Comparison_isOf one other (nI a) (nI b) P := fun P p0 p1 => ⟨fun y => p0 (fun q => y q.1), fun y => ⟨fun y2 => p0 (fun q => y2 q.2), fun y2 => p1 y y2⟩⟩
  refine go _ (fun _ => ⟨fun y => absurd rfl y, fun _ => ?_⟩) (fun e1 e2 => ⟨fun _ => h1 a b ha hb rfl rfl _ _ _ _ _ _ _ _ _ hC (hC a b ha hb e1 e2), fun y => absurd y (by decide)⟩)
  have key : p_Comparison_compare pairs len ld le ri bf lt (n a) (fw a) (6 * n a) (fa a) (n b) (fw b) (6 * n b) (fa b) (fun u4 u5 u6 u7 u8 u9 u10 => post 1 u4 u5 (nI a) (nI b) u6 u7 u8 u9 u10) := by
    have hA := au_ok (T.dok a ha)
    have hB := au_ok (T.dok b hb)
    refine q_compare (QM.of hA (T.mi a ha) (hMa a ha)) (QM.of hB (T.mi b hb) (hMa b hb)) (q2_n512 T hMa K ha).2 (q2_n512 T hMa K hb).2 ?_ (fun pairs' len' ld' le' ri' be' lt' hCR => h1 a b ha hb rfl rfl _ _ _ _ _ _ _ _ _ (fun a' b' ha' hb' e1 e2 => ?_) hCR)
    · rw [tq_iff T hMa K ha hb (w := []) (fun c hc => by cases hc)]
      intro q
      apply q
      constructor
      · intro q2; exact absurd hA.w0 q2
      · intro q2; exact absurd hB.w0 q2
    · have e1 := (nI_eq (by omega) (by omega)).mp e1
      have e2 := (nI_eq (by omega) (by omega)).mp e2
      subst e1 e2
      exact hCR
  refine md3c (A := fun k => (nI b = 0 → p_Comparison_compare pairs len ld le ri bf lt (n k) (fw k) (6 * n k) (fa k) (n 0) (fw 0) (6 * n 0) (fa 0) (fun u4 u5 u6 u7 u8 u9 u10 => post 1 u4 u5 (nI a) (nI b) u6 u7 u8 u9 u10)) ∧ (nI b = 1 → p_Comparison_compare pairs len ld le ri bf lt (n k) (fw k) (6 * n k) (fa k) (n 1) (fw 1) (6 * n 1) (fa 1) (fun u4 u5 u6 u7 u8 u9 u10 => post 1 u4 u5 (nI a) (nI b) u6 u7 u8 u9 u10)) ∧ (nI b = 2 → p_Comparison_compare pairs len ld le ri bf lt (n k) (fw k) (6 * n k) (fa k) (n 2) (fw 2) (6 * n 2) (fa 2) (fun u4 u5 u6 u7 u8 u9 u10 => post 1 u4 u5 (nI a) (nI b) u6 u7 u8 u9 u10)) ∧ (¬ nI b = 0 → ¬ nI b = 1 → ¬ nI b = 2 → False)) ha ?_
  exact md3c (A := fun k => p_Comparison_compare pairs len ld le ri bf lt (n a) (fw a) (6 * n a) (fa a) (n k) (fw k) (6 * n k) (fa k) (fun u4 u5 u6 u7 u8 u9 u10 => post 1 u4 u5 (nI a) (nI b) u6 u7 u8 u9 u10)) hb key
theorem q2_differ {D : Nat → Md} {G : Nat → Nat → Nat} {n : Nat → Nat} {s : Nat → Nat → Nat} {fa fw : Nat → Nat → Int32} {R : Nat} {many lts be mo fs ls : Nat → Int32} (T : RT D G n s R many lts be mo fs ls) (hMa : ∀ M, M < 3 → Mach (D M).au (G M) (n M) (s M) (fa M) (fw M)) {ma no se st gr sa fr gs : Nat → Int32} (K : RK D G n s ma no se st gr sa gs) {pairs len one other : Int32} {ld le ri bf lt : Nat → Int32} (hC : WC D G s pairs len one other bf lt) {sn fo ah : Nat → Int32} {x1 x2 : Int32} {post : _}
    (hp : ∀ r a1 a2 a3 a4 c1 c2 c3 c4 c5, WC D G s a1 a2 a3 a4 c4 c5 → (∀ pm : _, (∀ b1 b2 b3 b4 b5 b6 b7 b8 d1 d2 d3, RK D G n s b1 b2 b3 b4 b5 b6 b8 → pm r 0 b1 b2 b3 b4 b5 b6 b7 b8 d1 d2 d3) → p_M_differ (nI R) ma no mo fs many se be lts st ls gr sa fr gs sn fo ah x1 x2 pm) → post r a1 a2 a3 a4 c1 c2 c3 c4 c5) :
    p_TB_differ pairs len one other ld le ri bf lt (n 0) (fw 0) (6 * n 0) (fa 0) (n 1) (fw 1) (6 * n 1) (fa 1) (n 2) (fw 2) (6 * n 2) (fa 2) x1 x2 post := by
  refine q_compared T hMa K hC (fun a b ha hb ea eb pairs' len' one' other' ld' le' ri' bf' lt' hC' hR => ⟨fun y => absurd y (by decide), fun _ => hp _ _ _ _ _ _ _ _ _ _ hC' (fun pm hm => q_M_differ T K (fun a' b' ha' hb' ea' eb' => ?_) (fun q => ?_))⟩) (fun q => ⟨fun _ => hp _ _ _ _ _ _ _ _ _ _ hC (fun pm hm => q_M_differ T K (fun a' b' ha' hb' ea' eb' => ?_) (fun _ => hm _ _ _ _ _ _ _ _ _ _ _ K)), fun y => absurd rfl y⟩)
  · have e1 := (nI_eq (by omega) (by omega)).mp (ea.symm.trans ea')
    have e2 := (nI_eq (by omega) (by omega)).mp (eb.symm.trans eb')
    subst e1 e2
    exact ⟨len', CRm.diff T hMa K ha hb hR, fun b1 b2 b3 b4 b5 b6 b7 b8 d1 d2 d3 K' _ _ => hm _ _ _ _ _ _ _ _ _ _ _ K'⟩
  · exfalso
    rcases q with q | q
    · exact q a ha ea
    · exact q b hb eb
  · exfalso
    rcases q with q | q
    · exact q a' ha' ea'
    · exact q b' hb' eb'
theorem q2_differing {D : Nat → Md} {G : Nat → Nat → Nat} {n : Nat → Nat} {s : Nat → Nat → Nat} {fa fw : Nat → Nat → Int32} {R : Nat} {many lts be mo fs ls : Nat → Int32} (T : RT D G n s R many lts be mo fs ls) (hMa : ∀ M, M < 3 → Mach (D M).au (G M) (n M) (s M) (fa M) (fw M)) {ma no se st gr sa fr gs : Nat → Int32} (K : RK D G n s ma no se st gr sa gs) {pairs len one other : Int32} {ld le ri bf lt : Nat → Int32} (hC : WC D G s pairs len one other bf lt) {sn fo ah : Nat → Int32} {x1 x2 x3 : Int32} {post : _}
    (hp : ∀ r a1 a2 a3 a4 c1 c2 c3 c4 c5, WC D G s a1 a2 a3 a4 c4 c5 → (∀ pm : _, (∀ b1 b2 b3 b4 b5 b6 b7 b8 d1 d2 d3, RK D G n s b1 b2 b3 b4 b5 b6 b8 → pm r 0 b1 b2 b3 b4 b5 b6 b7 b8 d1 d2 d3) → p_M_differing (nI R) ma no mo fs many se be lts st ls gr sa fr gs sn fo ah x1 x2 x3 pm) → post r a1 a2 a3 a4 c1 c2 c3 c4 c5) :
    p_TB_differing pairs len one other ld le ri bf lt (n 0) (fw 0) (6 * n 0) (fa 0) (n 1) (fw 1) (6 * n 1) (fa 1) (n 2) (fw 2) (6 * n 2) (fa 2) x1 x2 x3 post := by
  refine q_compared T hMa K hC (fun a b ha hb ea eb pairs' len' one' other' ld' le' ri' bf' lt' hC' hR => ⟨fun y => absurd y (by decide), fun _ => ?_⟩) (fun q => ⟨fun _ => hp _ _ _ _ _ _ _ _ _ _ hC (fun pm hm => q_M_differing T K (fun a' b' ha' hb' ea' eb' => ?_) (fun _ => hm _ _ _ _ _ _ _ _ _ _ _ K)), fun y => absurd rfl y⟩)
  · have hD := CRm.diff T hMa K ha hb hR
    have out : ∀ q, ((∀ M, M < 3 → x1 ≠ nI M) ∨ (∀ M, M < 3 → x2 ≠ nI M)) → (q : Prop) := fun q y => by
      exfalso
      rcases y with y | y
      · exact y a ha ea
      · exact y b hb eb
    refine q_letterAt hR (fun hn => hp _ _ _ _ _ _ _ _ _ _ hC' (fun pm hm => q_M_differing T K (fun a' b' ha' hb' ea' eb' => ?_) (fun q => out _ q))) (fun W w6 wt wm wl => ⟨fun hx => hp _ _ _ _ _ _ _ _ _ _ hC' (fun pm hm => q_M_differing T K (fun a' b' ha' hb' ea' eb' => ?_) (fun q => out _ q)), fun i hi ei => hp _ _ _ _ _ _ _ _ _ _ hC' (fun pm hm => q_M_differing T K (fun a' b' ha' hb' ea' eb' => ?_) (fun q => out _ q))⟩)
    · have e1 := (nI_eq (by omega) (by omega)).mp (ea.symm.trans ea')
      have e2 := (nI_eq (by omega) (by omega)).mp (eb.symm.trans eb')
      subst e1 e2
      refine ⟨len', hD, fun b1 b2 b3 b4 b5 b6 b7 b8 d1 d2 d3 K' => ⟨fun _ => hm _ _ _ _ _ _ _ _ _ _ _ K', fun W w6 wt _ => ?_⟩⟩
      exact absurd ((tq_iff T hMa K ha hb w6).mpr wt) (hn W w6)
    · have e1 := (nI_eq (by omega) (by omega)).mp (ea.symm.trans ea')
      have e2 := (nI_eq (by omega) (by omega)).mp (eb.symm.trans eb')
      subst e1 e2
      refine ⟨len', hD, fun b1 b2 b3 b4 b5 b6 b7 b8 d1 d2 d3 K' => ⟨fun _ => hm _ _ _ _ _ _ _ _ _ _ _ K', fun W' w6' wt' wm' => ?_⟩⟩
      have e : W = W' := cd_inj2 w6 w6' (Nat.le_antisymm (wm W' w6' ((tq_iff T hMa K ha hb w6').mpr wt')) (wm' W w6 ((tq_iff T hMa K ha hb w6).mp wt)))
      subst e
      exact ⟨fun _ => hm _ _ _ _ _ _ _ _ _ _ _ K', fun i hi ei => by
        exfalso
        subst ei
        rcases hx with y | y
        · exact nI_pos (by omega) y
        · exact nI_ge hi (by omega) y⟩
    · have e1 := (nI_eq (by omega) (by omega)).mp (ea.symm.trans ea')
      have e2 := (nI_eq (by omega) (by omega)).mp (eb.symm.trans eb')
      subst e1 e2
      refine ⟨len', hD, fun b1 b2 b3 b4 b5 b6 b7 b8 d1 d2 d3 K' => ⟨fun q => absurd ((tq_iff T hMa K ha hb w6).mp wt) (q W w6), fun W' w6' wt' wm' => ?_⟩⟩
      have e : W = W' := cd_inj2 w6 w6' (Nat.le_antisymm (wm W' w6' ((tq_iff T hMa K ha hb w6').mpr wt')) (wm' W w6 ((tq_iff T hMa K ha hb w6).mp wt)))
      subst e
      subst ei
      refine ⟨fun hx => ?_, fun j hj ej => ?_⟩
      · exfalso
        rcases hx with y | y
        · exact nI_pos (by omega) y
        · exact nI_ge hi (by omega) y
      · have := (nI_eq (by omega) (by omega)).mp ej
        subst this
        exact hm _ _ _ _ _ _ _ _ _ _ _ K'
  · exfalso
    rcases q with q | q
    · exact q a' ha' ea'
    · exact q b' hb' eb'