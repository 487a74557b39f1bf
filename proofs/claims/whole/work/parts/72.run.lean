/-! The stream, both sides: begin, feed, end, ready, token, take, stream -/
def WS (Am : Nat → Auto) (Gm : Nat → Nat → Nat) (S : SS) (o o' : Nat) (th en mo kc ca pc lo stt mt mr ol sz : Int32) (pe fc ke : Nat → Int32) (th' en' mo' kc' ca' pc' lo' tc' ol' : Int32) (le t1 t2 t3 t4 ke' : Nat → Int32) : Prop :=
  (th' = th) ∧
  (bz th) ∧
  (en' = en) ∧
  (ca = S.ca) ∧
  (ca' = S.ca) ∧
  (ol = nI o) ∧
  (ol' = nI o') ∧
  (CSt Am Gm S S.p mo kc pc lo stt mt mr pe sz fc ke o) ∧
  (RSt Am S S.p mo' kc' pc' lo' tc' le t1 t2 t3 t4 ke' o') ∧
  (S.p < 48) ∧
  (UW th en ∨ S.p = 0)
theorem WS.eth {Am : Nat → Auto} {Gm : Nat → Nat → Nat} {S : SS} {o o' : Nat} {th en mo kc ca pc lo stt mt mr ol sz : Int32} {pe fc ke : Nat → Int32} {th' en' mo' kc' ca' pc' lo' tc' ol' : Int32} {le t1 t2 t3 t4 ke' : Nat → Int32} (h_ : WS Am Gm S o o' th en mo kc ca pc lo stt mt mr ol sz pe fc ke th' en' mo' kc' ca' pc' lo' tc' ol' le t1 t2 t3 t4 ke') : th' = th := h_.1
theorem WS.hbz {Am : Nat → Auto} {Gm : Nat → Nat → Nat} {S : SS} {o o' : Nat} {th en mo kc ca pc lo stt mt mr ol sz : Int32} {pe fc ke : Nat → Int32} {th' en' mo' kc' ca' pc' lo' tc' ol' : Int32} {le t1 t2 t3 t4 ke' : Nat → Int32} (h_ : WS Am Gm S o o' th en mo kc ca pc lo stt mt mr ol sz pe fc ke th' en' mo' kc' ca' pc' lo' tc' ol' le t1 t2 t3 t4 ke') : bz th := h_.2.1
theorem WS.een {Am : Nat → Auto} {Gm : Nat → Nat → Nat} {S : SS} {o o' : Nat} {th en mo kc ca pc lo stt mt mr ol sz : Int32} {pe fc ke : Nat → Int32} {th' en' mo' kc' ca' pc' lo' tc' ol' : Int32} {le t1 t2 t3 t4 ke' : Nat → Int32} (h_ : WS Am Gm S o o' th en mo kc ca pc lo stt mt mr ol sz pe fc ke th' en' mo' kc' ca' pc' lo' tc' ol' le t1 t2 t3 t4 ke') : en' = en := h_.2.2.1
theorem WS.eca {Am : Nat → Auto} {Gm : Nat → Nat → Nat} {S : SS} {o o' : Nat} {th en mo kc ca pc lo stt mt mr ol sz : Int32} {pe fc ke : Nat → Int32} {th' en' mo' kc' ca' pc' lo' tc' ol' : Int32} {le t1 t2 t3 t4 ke' : Nat → Int32} (h_ : WS Am Gm S o o' th en mo kc ca pc lo stt mt mr ol sz pe fc ke th' en' mo' kc' ca' pc' lo' tc' ol' le t1 t2 t3 t4 ke') : ca = S.ca := h_.2.2.2.1
theorem WS.eca2 {Am : Nat → Auto} {Gm : Nat → Nat → Nat} {S : SS} {o o' : Nat} {th en mo kc ca pc lo stt mt mr ol sz : Int32} {pe fc ke : Nat → Int32} {th' en' mo' kc' ca' pc' lo' tc' ol' : Int32} {le t1 t2 t3 t4 ke' : Nat → Int32} (h_ : WS Am Gm S o o' th en mo kc ca pc lo stt mt mr ol sz pe fc ke th' en' mo' kc' ca' pc' lo' tc' ol' le t1 t2 t3 t4 ke') : ca' = S.ca := h_.2.2.2.2.1
theorem WS.eol {Am : Nat → Auto} {Gm : Nat → Nat → Nat} {S : SS} {o o' : Nat} {th en mo kc ca pc lo stt mt mr ol sz : Int32} {pe fc ke : Nat → Int32} {th' en' mo' kc' ca' pc' lo' tc' ol' : Int32} {le t1 t2 t3 t4 ke' : Nat → Int32} (h_ : WS Am Gm S o o' th en mo kc ca pc lo stt mt mr ol sz pe fc ke th' en' mo' kc' ca' pc' lo' tc' ol' le t1 t2 t3 t4 ke') : ol = nI o := h_.2.2.2.2.2.1
theorem WS.eol2 {Am : Nat → Auto} {Gm : Nat → Nat → Nat} {S : SS} {o o' : Nat} {th en mo kc ca pc lo stt mt mr ol sz : Int32} {pe fc ke : Nat → Int32} {th' en' mo' kc' ca' pc' lo' tc' ol' : Int32} {le t1 t2 t3 t4 ke' : Nat → Int32} (h_ : WS Am Gm S o o' th en mo kc ca pc lo stt mt mr ol sz pe fc ke th' en' mo' kc' ca' pc' lo' tc' ol' le t1 t2 t3 t4 ke') : ol' = nI o' := h_.2.2.2.2.2.2.1
theorem WS.hc {Am : Nat → Auto} {Gm : Nat → Nat → Nat} {S : SS} {o o' : Nat} {th en mo kc ca pc lo stt mt mr ol sz : Int32} {pe fc ke : Nat → Int32} {th' en' mo' kc' ca' pc' lo' tc' ol' : Int32} {le t1 t2 t3 t4 ke' : Nat → Int32} (h_ : WS Am Gm S o o' th en mo kc ca pc lo stt mt mr ol sz pe fc ke th' en' mo' kc' ca' pc' lo' tc' ol' le t1 t2 t3 t4 ke') : CSt Am Gm S S.p mo kc pc lo stt mt mr pe sz fc ke o := h_.2.2.2.2.2.2.2.1
theorem WS.hr {Am : Nat → Auto} {Gm : Nat → Nat → Nat} {S : SS} {o o' : Nat} {th en mo kc ca pc lo stt mt mr ol sz : Int32} {pe fc ke : Nat → Int32} {th' en' mo' kc' ca' pc' lo' tc' ol' : Int32} {le t1 t2 t3 t4 ke' : Nat → Int32} (h_ : WS Am Gm S o o' th en mo kc ca pc lo stt mt mr ol sz pe fc ke th' en' mo' kc' ca' pc' lo' tc' ol' le t1 t2 t3 t4 ke') : RSt Am S S.p mo' kc' pc' lo' tc' le t1 t2 t3 t4 ke' o' := h_.2.2.2.2.2.2.2.2.1
theorem WS.hp {Am : Nat → Auto} {Gm : Nat → Nat → Nat} {S : SS} {o o' : Nat} {th en mo kc ca pc lo stt mt mr ol sz : Int32} {pe fc ke : Nat → Int32} {th' en' mo' kc' ca' pc' lo' tc' ol' : Int32} {le t1 t2 t3 t4 ke' : Nat → Int32} (h_ : WS Am Gm S o o' th en mo kc ca pc lo stt mt mr ol sz pe fc ke th' en' mo' kc' ca' pc' lo' tc' ol' le t1 t2 t3 t4 ke') : S.p < 48 := h_.2.2.2.2.2.2.2.2.2.1
theorem WS.huw {Am : Nat → Auto} {Gm : Nat → Nat → Nat} {S : SS} {o o' : Nat} {th en mo kc ca pc lo stt mt mr ol sz : Int32} {pe fc ke : Nat → Int32} {th' en' mo' kc' ca' pc' lo' tc' ol' : Int32} {le t1 t2 t3 t4 ke' : Nat → Int32} (h_ : WS Am Gm S o o' th en mo kc ca pc lo stt mt mr ol sz pe fc ke th' en' mo' kc' ca' pc' lo' tc' ol' le t1 t2 t3 t4 ke') : UW th en ∨ S.p = 0 := h_.2.2.2.2.2.2.2.2.2.2

def SS0 (M : Nat) : SS := SS.mk M 0 (fun _ => 0) 0 0 (fun _ => 0) 0 (fun _ => (0, 0, 0, 0))
theorem SS0_ok {M : Nat} (hM : M < 3) : (SS0 M).Ok := ⟨hM, by show 0 ≤ 5; omega, fun j hj => absurd hj (Nat.not_lt_zero j), by show 0 ≤ 48; omega, fun j hj => absurd hj (Nat.not_lt_zero j), by show 0 + 0 ≤ 71; omega⟩
/-- a stream that has no letters waiting is the same under any rules -/
theorem CSt.any {Am Am' : Nat → Auto} {Gm Gm' : Nat → Nat → Nat} {S : SS} {mo kc pc lo stt mt mr : Int32} {pe : Nat → Int32} {sz : Int32} {fc ke : Nat → Int32} {o : Nat} (h : CSt Am Gm S S.p mo kc pc lo stt mt mr pe sz fc ke o) (h0 : S.p = 0) (g : Gm S.M 0 = 0) (g' : Gm' S.M 0 = 0) : CSt Am' Gm' S S.p mo kc pc lo stt mt mr pe sz fc ke o := by
  refine ⟨h.ok, h.mo, h.kc, h.pc, h.lo, ?_, ?_, ?_, h.lp, fun l' a b => absurd a (by omega), h.pe, h.sz, h.tk, h.ke⟩
  · have := h.stt
    rw [h0] at this ⊢
    show stt = oc ((some 0).map (Gm' S.M))
    rw [this]
    show oc ((some 0).map (Gm S.M)) = oc ((some 0).map (Gm' S.M))
    simp only [Option.map_some, g, g']
  · have := h.mt
    rw [h0] at this ⊢
    exact this
  · have := h.mr
    rw [h0] at this ⊢
    exact this
theorem RSt.any {Am Am' : Nat → Auto} {S : SS} {mo kc pc lo tc : Int32} {le t1 t2 t3 t4 ke : Nat → Int32} {o : Nat} (h : RSt Am S S.p mo kc pc lo tc le t1 t2 t3 t4 ke o) (h0 : S.p = 0) : RSt Am' S S.p mo kc pc lo tc le t1 t2 t3 t4 ke o :=
  ⟨h.ok, h.mo, h.kc, h.pc, h.lo, h.lp, fun l' a b => absurd a (by omega), h.le, h.tc, h.tk, h.ke⟩
theorem WS.any {Am Am' : Nat → Auto} {Gm Gm' : Nat → Nat → Nat} (g : ∀ M, M < 3 → Gm M 0 = 0) (g' : ∀ M, M < 3 → Gm' M 0 = 0) {S : SS} {o o' : Nat} {th en mo kc ca pc lo stt mt mr ol sz : Int32} {pe fc ke : Nat → Int32} {th' en' mo' kc' ca' pc' lo' tc' ol' : Int32} {le t1 t2 t3 t4 ke' : Nat → Int32} (h : WS Am Gm S o o' th en mo kc ca pc lo stt mt mr ol sz pe fc ke th' en' mo' kc' ca' pc' lo' tc' ol' le t1 t2 t3 t4 ke') (hu : ¬ UW th en) : WS Am' Gm' S o o' th en mo kc ca pc lo stt mt mr ol sz pe fc ke th' en' mo' kc' ca' pc' lo' tc' ol' le t1 t2 t3 t4 ke' := by
  have h0 : S.p = 0 := h.huw.resolve_left hu
  exact ⟨h.eth, h.hbz, h.een, h.eca, h.eca2, h.eol, h.eol2, h.hc.any h0 (g _ h.hc.ok.M) (g' _ h.hc.ok.M), h.hr.any h0, h.hp, h.huw⟩
/-- as a stream begins -/
theorem WS.fresh {Am : Nat → Auto} {Gm : Nat → Nat → Nat} (g : ∀ M, M < 3 → Gm M 0 = 0) {M : Nat} (hM : M < 3) {th en : Int32} (hb : bz th) {pe fc ke : Nat → Int32} {le t1 t2 t3 t4 ke' : Nat → Int32} : WS Am Gm (SS0 M) 0 0 th en (nI M) 0 0 0 0 0 0 (-1) 0 0 pe fc ke th en (nI M) 0 0 0 0 0 0 le t1 t2 t3 t4 ke' := by
  refine ⟨rfl, hb, rfl, rfl, rfl, rfl, rfl, ⟨SS0_ok hM, rfl, rfl, rfl, rfl, ?_, rfl, rfl, Nat.le_refl _, fun l' a b => absurd b (by show ¬ l' ≤ 0; omega), fun j hj => absurd hj (Nat.not_lt_zero j), rfl, ⟨by omega, fun i hi => absurd hi (Nat.not_lt_zero i)⟩, fun j hj => absurd hj (Nat.not_lt_zero j)⟩, ⟨SS0_ok hM, rfl, rfl, rfl, rfl, Nat.le_refl _, fun l' a b => absurd b (by show ¬ l' ≤ 0; omega), fun j hj => absurd hj (Nat.not_lt_zero j), rfl, ⟨by omega, fun i hi => absurd hi (Nat.not_lt_zero i)⟩, fun j hj => absurd hj (Nat.not_lt_zero j)⟩, by show 0 < 48; omega, Or.inr rfl⟩
  show (0 : Int32) = oc ((some 0).map (Gm M))
  simp only [Option.map_some, g M hM]
  rfl
theorem q2_begin {Am : Nat → Auto} {Gm : Nat → Nat → Nat} {S : SS} {o o' : Nat} {th en mo kc ca pc lo stt mt mr ol sz : Int32} {pe fc ke : Nat → Int32} {th' en' mo' kc' ca' pc' lo' tc' ol' : Int32} {le t1 t2 t3 t4 ke' : Nat → Int32} (h : WS Am Gm S o o' th en mo kc ca pc lo stt mt mr ol sz pe fc ke th' en' mo' kc' ca' pc' lo' tc' ol' le t1 t2 t3 t4 ke') (g : ∀ M, M < 3 → Gm M 0 = 0) {x1 : Int32} {post : _}
    (hp : ∀ r a1 a2 a3 a4 a5 a6 a7 a8 a9 a10 a11 a12, (∀ pm : _, (∀ S2 o2 o2' b1 b2 b3 b4 b5 b6 b7 b8 b9, WS Am Gm S2 o2 o2' a1 a2 a3 a4 a5 a6 a7 a8 a9 a10 a11 a12 pe fc ke b1 b2 b3 b4 b5 b6 b7 b8 b9 le t1 t2 t3 t4 ke' → pm r 0 b1 b2 b3 b4 b5 b6 b7 b8 b9) → p_M_begin th' en' mo' kc' ca' pc' lo' tc' ol' x1 pm) → post r a1 a2 a3 a4 a5 a6 a7 a8 a9 a10 a11 a12) :
    p_TB_begin th en mo kc ca pc lo stt mt mr ol sz x1 post := by
  refine q_isMode (fun z => ⟨fun _ => ?_, fun y => absurd y (by decide)⟩) (fun z => ⟨fun y => absurd rfl y, fun _ => ?_⟩)
  · obtain ⟨M, hM, e⟩ : ∃ M, M < 3 ∧ x1 = nI M := by
      rcases z with z | z | z
      · exact ⟨0, by omega, z⟩
      · exact ⟨1, by omega, z⟩
      · exact ⟨2, by omega, z⟩
    subst e
    refine hp _ _ _ _ _ _ _ _ _ _ _ _ _ (fun pm hm => q_M_isMode (fun M' h1 h2 => ⟨fun _ => ?_, fun y => absurd y (by decide)⟩) (fun q => absurd rfl (q M hM)))
    exact hm _ _ _ _ _ _ _ _ _ _ _ _ (WS.fresh g hM (Or.inr rfl))
  · refine hp _ _ _ _ _ _ _ _ _ _ _ _ _ (fun pm hm => q_M_isMode (fun M' h1 h2 => ?_) (fun q => ⟨fun y => absurd rfl y, fun _ => hm _ _ _ _ _ _ _ _ _ _ _ _ h⟩))
    exfalso
    apply z
    subst h2
    rcases (by omega : M' = 0 ∨ M' = 1 ∨ M' = 2) with y | y | y <;> subst y
    · exact Or.inl rfl
    · exact Or.inr (Or.inl rfl)
    · exact Or.inr (Or.inr rfl)
theorem q2_ready {Am : Nat → Auto} {Gm : Nat → Nat → Nat} {S : SS} {o o' : Nat} {th en mo kc ca pc lo stt mt mr ol sz : Int32} {pe fc ke : Nat → Int32} {th' en' mo' kc' ca' pc' lo' tc' ol' : Int32} {le t1 t2 t3 t4 ke' : Nat → Int32} (h : WS Am Gm S o o' th en mo kc ca pc lo stt mt mr ol sz pe fc ke th' en' mo' kc' ca' pc' lo' tc' ol' le t1 t2 t3 t4 ke') {post : Int32 → Prop} (hp : (∀ pm : Int32 → Int32 → Prop, pm sz 0 → p_M_ready tc' pm) → post sz) : p_TB_ready sz post := by
  refine hp (fun pm hm => ?_)
  show pm tc' 0
  rw [h.hr.tc, ← h.hc.sz]
  exact hm
theorem q2_stream {Am : Nat → Auto} {Gm : Nat → Nat → Nat} {S : SS} {o o' : Nat} {th en mo kc ca pc lo stt mt mr ol sz : Int32} {pe fc ke : Nat → Int32} {th' en' mo' kc' ca' pc' lo' tc' ol' : Int32} {le t1 t2 t3 t4 ke' : Nat → Int32} (h : WS Am Gm S o o' th en mo kc ca pc lo stt mt mr ol sz pe fc ke th' en' mo' kc' ca' pc' lo' tc' ol' le t1 t2 t3 t4 ke') {x1 : Int32} {post : Int32 → Prop} (hp : ∀ r, (∀ pm : Int32 → Int32 → Prop, pm r 0 → p_M_stream th' mo' kc' ca' pc' x1 pm) → post r) : p_TB_stream th mo kc ca pc x1 post := by
  have e1 := h.eth
  have e2 : mo' = mo := by rw [h.hr.mo, h.hc.mo]
  have e3 : kc' = kc := by rw [h.hr.kc, h.hc.kc]
  have e4 : ca' = ca := by rw [h.eca, h.eca2]
  have e5 : pc' = pc := by rw [h.hr.pc, h.hc.pc]
  have hb := h.hbz
  subst e1 e2 e3 e4 e5
  refine ⟨hb, fun z => hp _ (fun pm hm => ⟨fun _ => hm, fun y => absurd z y⟩), fun z => ⟨fun z0 => hp _ (fun pm hm => ⟨fun y => absurd y z, fun _ => ?_⟩), fun z1 => hp _ (fun pm hm => ⟨fun y => absurd y z, fun _ => ?_⟩), fun z2 => hp _ (fun pm hm => ⟨fun y => absurd y z, fun _ => ?_⟩), fun z3 => hp _ (fun pm hm => ⟨fun y => absurd y z, fun _ => ?_⟩), fun n0 n1 n2 n3 => hp _ (fun pm hm => ⟨fun y => absurd y z, fun _ => ⟨fun _ => hm, fun y => ⟨fun y2 => ?_, fun _ => hm⟩⟩⟩)⟩⟩
  · subst z0
    exact ⟨fun y => absurd y (by decide), fun _ => ⟨fun _ => ⟨fun y => absurd rfl y, fun _ => hm⟩, fun y => absurd (by decide) y⟩⟩
  · subst z1
    exact ⟨fun y => absurd y (by decide), fun _ => ⟨fun _ => ⟨fun _ => ⟨fun y => absurd rfl y, fun _ => hm⟩, fun y => absurd y (by decide)⟩, fun y => absurd (by decide) y⟩⟩
  · subst z2
    exact ⟨fun y => absurd y (by decide), fun _ => ⟨fun _ => ⟨fun _ => ⟨fun _ => ⟨fun y => absurd rfl y, fun _ => hm⟩, fun y => absurd y (by decide)⟩, fun y => absurd y (by decide)⟩, fun y => absurd (by decide) y⟩⟩
  · subst z3
    exact ⟨fun y => absurd y (by decide), fun _ => ⟨fun _ => ⟨fun _ => ⟨fun _ => ⟨fun _ => hm, fun y => absurd y (by decide)⟩, fun y => absurd y (by decide)⟩, fun y => absurd y (by decide)⟩, fun y => absurd (by decide) y⟩⟩
  · exfalso
    obtain ⟨j, hj, e⟩ := nI_of2 (M := 3) (n := 3) (by decide) y y2
    subst e
    rcases (by omega : j = 0 ∨ j = 1 ∨ j = 2 ∨ j = 3) with q | q | q | q <;> subst q
    · exact n0 rfl
    · exact n1 rfl
    · exact n2 rfl
    · exact n3 rfl