/-! feed, end, token, take of both -/
theorem Mini.zeros {A : Auto} {g : Nat → Nat} {n : Nat} {s : Nat → Nat} (h : Mini A g n s) (hA : A.Ok) : g 0 = 0 := h.can.zero hA.pos
theorem cutsF_ca {Am : Nat → Auto} {ac : Nat → Nat} {en : Prop} : ∀ (n : Nat) (S : SS), (cutsF Am ac en n S).ca = S.ca := by
  intro n
  induction n with
  | zero => intro S; rfl
  | succ n ih =>
    intro S
    unfold cutsF
    split
    · rw [ih]; rfl
    · rfl
theorem q2_feed {D : Nat → Md} {G : Nat → Nat → Nat} {n : Nat → Nat} {s : Nat → Nat → Nat} {fa fw : Nat → Nat → Int32} {R : Nat} {many lts be mo fs ls : Nat → Int32} (T : RT D G n s R many lts be mo fs ls) (hMa : ∀ M, M < 3 → Mach (D M).au (G M) (n M) (s M) (fa M) (fw M)) {ac : Nat → Nat} (hac : ∀ r, ac r ≤ 4) {acf acr : Nat → Int32} (hacf : ∀ r, r < 16 → acf r = nI (ac r)) (hacr : ∀ r, r < 16 → acr r = nI (ac r)) {S : SS} {o o' : Nat} {th en mk kc ca pc lo stt mt mr ol sz : Int32} {pe fc ke : Nat → Int32} {th' en' mk' kc' ca' pc' lo' tc' ol' : Int32} {le t1 t2 t3 t4 ke' : Nat → Int32} (h : WS (fun M => (D M).au) G S o o' th en mk kc ca pc lo stt mt mr ol sz pe fc ke th' en' mk' kc' ca' pc' lo' tc' ol' le t1 t2 t3 t4 ke') {ma no se st gr sa fr gs : Nat → Int32} (K : RK D G n s ma no se st gr sa gs) {x1 x2 : Int32} {post : _}
    (hp : ∀ r a1 a2 a3 a4 a5 a6 a7 a8 a9 c1 c2 c3, (∀ pm : _, (∀ S2 b1 b2 b3 b4 b5 b6 e1 e2 e3 e4 e5 e6 e7 e8 e9 e10 e11 e12 e13 e14, RK D G n s e2 e3 e4 e5 e6 e7 e9 → WS (fun M => (D M).au) G S2 o o' th en a1 a2 a3 a4 a5 a6 a7 a8 ol a9 c1 c2 c3 th' en' b1 b2 b3 b4 b5 b6 ol' e1 e10 e11 e12 e13 e14 → pm r 0 b1 b2 b3 b4 b5 b6 e1 e2 e3 e4 e5 e6 e7 e8 e9 e10 e11 e12 e13 e14) → p_M_feed (nI R) th' en' mk' kc' ca' pc' lo' tc' ol' le ma no mo fs many se be lts st ls gr sa fr gs t1 t2 t3 t4 acr ke' x1 x2 pm) → post r a1 a2 a3 a4 a5 a6 a7 a8 a9 c1 c2 c3) :
    p_TB_feed th en mk kc ca pc lo stt mt mr ol sz pe (n 0) (fw 0) (6 * n 0) (fa 0) fc acf ke (n 1) (fw 1) (6 * n 1) (fa 1) (n 2) (fw 2) (6 * n 2) (fa 2) x1 x2 post := by
  have e1 := h.eth
  have e2 := h.een
  have e3 := h.eol
  have e4 := h.eol2
  subst e1 e2 e3 e4
  have stay : ∀ pm : Int32 → Int32 → Int32 → Int32 → Int32 → Int32 → Int32 → Int32 → (Nat → Int32) → (Nat → Int32) → (Nat → Int32) → (Nat → Int32) → (Nat → Int32) → (Nat → Int32) → (Nat → Int32) → (Nat → Int32) → (Nat → Int32) → (Nat → Int32) → (Nat → Int32) → (Nat → Int32) → (Nat → Int32) → (Nat → Int32) → Prop, (∀ S2 b1 b2 b3 b4 b5 b6 e1 e2 e3 e4 e5 e6 e7 e8 e9 e10 e11 e12 e13 e14, RK D G n s e2 e3 e4 e5 e6 e7 e9 → WS (fun M => (D M).au) G S2 o o' th' en' mk kc ca pc lo stt mt mr (nI o) sz pe fc ke th' en' b1 b2 b3 b4 b5 b6 (nI o') e1 e10 e11 e12 e13 e14 → pm (-1) 0 b1 b2 b3 b4 b5 b6 e1 e2 e3 e4 e5 e6 e7 e8 e9 e10 e11 e12 e13 e14) → pm (-1) 0 mk' kc' ca' pc' lo' tc' le ma no se st gr sa fr gs t1 t2 t3 t4 ke' := fun pm hm => hm _ _ _ _ _ _ _ _ _ _ _ _ _ _ _ _ _ _ _ _ _ K h
  refine q_underWay (fun hu => ⟨fun z => absurd z (by decide), fun _ => ⟨fun z => hp _ _ _ _ _ _ _ _ _ _ _ _ _ (fun pm hm => ⟨fun y => absurd y hu.1, fun _ => ⟨fun y => absurd hu.2 y, fun _ => ⟨fun _ => stay pm hm, fun y => absurd z y⟩⟩⟩), fun z => ⟨fun z2 => ?_, fun z2 => hp _ _ _ _ _ _ _ _ _ _ _ _ _ (fun pm hm => ⟨fun y => absurd y hu.1, fun _ => ⟨fun y => absurd hu.2 y, fun _ => ⟨fun y => absurd y z, fun _ => ⟨fun y => absurd y z2, fun _ => stay pm hm⟩⟩⟩⟩)⟩⟩⟩) (fun hu => ⟨fun _ => hp _ _ _ _ _ _ _ _ _ _ _ _ _ (fun pm hm => ⟨fun _ => stay pm hm, fun y => ⟨fun _ => stay pm hm, fun y2 => absurd ⟨y, y2⟩ hu⟩⟩), fun z => absurd rfl z⟩)
  obtain ⟨m, hm10, em⟩ : ∃ m, m ≤ 10 ∧ x2 = nI m := nI_of2 (M := 10) (n := 10) (by decide) (fun q => z (Int32.lt_trans q (by decide))) z2
  subst em
  have hAm : ∀ M, M < 3 → ((fun M => (D M).au) M).Ok := fun M hM => au_ok (T.dok M hM)
  have e0 := hu.2
  subst e0
  refine q_accept (Am := fun M => (D M).au) (Gm := G) (sm := s) hAm T.mi hMa hac hacf hm10 h.hp h.eca h.hc (fun S' k mo2 kc2 pc2 lo2 st2 mt2 mr2 pe2 sz2 fc2 ke2 hf hp48 hI => hp _ _ _ _ _ _ _ _ _ _ _ _ _ (fun pm hm => ⟨fun y => absurd y hu.1, fun _ => ⟨fun y => absurd rfl y, fun _ => ⟨fun y => absurd y z, fun _ => ⟨fun _ => ?_, fun y => absurd z2 y⟩⟩⟩⟩))
  refine q_M_feed34 T hac hacr hm10 h.hp K h.eca2 h.hr (fun S'' k' mo3 kc3 pc3 lo3 tc3 le3 ma3 no3 se3 st3 gr3 sa3 fr3 gs3 t13 t23 t33 t43 ke3 hf' hp48' K' hI' => ?_)
  have eS := hf.symm.trans hf'
  have ek : k = k' := congrArg Prod.fst eS
  have eS2 : S' = S'' := congrArg Prod.snd eS
  subst ek eS2
  exact hm _ _ _ _ _ _ _ _ _ _ _ _ _ _ _ _ _ _ _ _ _ K' ⟨rfl, h.hbz, rfl, rfl, rfl, rfl, rfl, hI, hI', hp48, Or.inl hu⟩
theorem q2_end {D : Nat → Md} {G : Nat → Nat → Nat} {n : Nat → Nat} {s : Nat → Nat → Nat} {fa fw : Nat → Nat → Int32} {R : Nat} {many lts be mo fs ls : Nat → Int32} (T : RT D G n s R many lts be mo fs ls) (hMa : ∀ M, M < 3 → Mach (D M).au (G M) (n M) (s M) (fa M) (fw M)) {ac : Nat → Nat} (hac : ∀ r, ac r ≤ 4) {acf acr : Nat → Int32} (hacf : ∀ r, r < 16 → acf r = nI (ac r)) (hacr : ∀ r, r < 16 → acr r = nI (ac r)) {S : SS} {o o' : Nat} {th en mk kc ca pc lo stt mt mr ol sz : Int32} {pe fc ke : Nat → Int32} {th' en' mk' kc' ca' pc' lo' tc' ol' : Int32} {le t1 t2 t3 t4 ke' : Nat → Int32} (h : WS (fun M => (D M).au) G S o o' th en mk kc ca pc lo stt mt mr ol sz pe fc ke th' en' mk' kc' ca' pc' lo' tc' ol' le t1 t2 t3 t4 ke') {ma no se st gr sa fr gs : Nat → Int32} (K : RK D G n s ma no se st gr sa gs) {post : _}
    (hp : ∀ r a0 a1 a2 a4 a5 a6 a7 a8 c1 a9 c2 c3, (∀ pm : _, (∀ S2 b0 b1 b2 b4 b5 b6 e1 e2 e3 e4 e5 e6 e7 e8 e9 e10 e11 e12 e13 e14, RK D G n s e2 e3 e4 e5 e6 e7 e9 → WS (fun M => (D M).au) G S2 o o' th a0 a1 a2 ca a4 a5 a6 a7 a8 ol a9 c1 c2 c3 th' b0 b1 b2 ca' b4 b5 b6 ol' e1 e10 e11 e12 e13 e14 → pm r 0 b0 b1 b2 b4 b5 b6 e2 e3 e4 e5 e6 e7 e8 e9 e1 e10 e11 e12 e13 e14) → p_M_end (nI R) th' en' mk' kc' ca' pc' lo' tc' ol' ma no mo fs many se be lts st ls gr sa fr gs le t1 t2 t3 t4 acr ke' pm) → post r a0 a1 a2 a4 a5 a6 a7 a8 c1 a9 c2 c3) :
    p_TB_end th en mk kc ca pc lo stt mt mr pe (n 0) (fw 0) (6 * n 0) (fa 0) ol sz fc acf ke (n 1) (fw 1) (6 * n 1) (fa 1) (n 2) (fw 2) (6 * n 2) (fa 2) post := by
  have e1 := h.eth
  have e2 := h.een
  have e3 := h.eol
  have e4 := h.eol2
  have e5 := h.eca
  have e6 := h.eca2
  subst e1 e2 e3 e4 e5 e6
  have hAm : ∀ M, M < 3 → ((fun M => (D M).au) M).Ok := fun M hM => au_ok (T.dok M hM)
  refine q_underWay (fun hu => ⟨fun _ => ?_, fun z => absurd z (by decide)⟩) (fun hu => ⟨fun z => absurd rfl z, fun _ => hp _ _ _ _ _ _ _ _ _ _ _ _ _ (fun pm hm => ⟨fun _ => hm _ _ _ _ _ _ _ _ _ _ _ _ _ _ _ _ _ _ _ _ _ K h, fun y => ⟨fun y2 => absurd ⟨y, y2⟩ hu, fun _ => hm _ _ _ _ _ _ _ _ _ _ _ _ _ _ _ _ _ _ _ _ _ K h⟩⟩)⟩)
  have n1 : ¬ (1 : Int32) = 0 := by decide
  obtain ⟨hok, hno⟩ := cutsF_end (Am := fun M => (D M).au) hac (en := ¬ (1 : Int32) = 0) 48 S h.hc.ok h.hc.ok.p
  have hp0 : (cutsF (fun M => (D M).au) ac (¬ (1 : Int32) = 0) 48 S).p = 0 := by
    rcases Nat.eq_zero_or_pos (cutsF (fun M => (D M).au) ac (¬ (1 : Int32) = 0) 48 S).p with y | y
    · exact y
    · exact absurd ⟨n1, y⟩ hno.2.2
  have hca : (cutsF (fun M => (D M).au) ac (¬ (1 : Int32) = 0) 48 S).ca = S.ca := cutsF_ca 48 S
  refine q_cutAllDue (Am := fun M => (D M).au) (Gm := G) (sm := s) hAm T.mi hMa hac hacf h.hc (fun mo2 kc2 pc2 lo2 st2 mt2 mr2 pe2 sz2 fc2 ke2 hI => hp _ _ _ _ _ _ _ _ _ _ _ _ _ (fun pm hm => ⟨fun y => absurd y hu.1, fun _ => ⟨fun _ => ?_, fun y => absurd hu.2 y⟩⟩))
  refine q_M_cutAll T hac hacr K h.hr (fun _ q => by have := h.hp; omega) (fun mo3 kc3 pc3 lo3 tc3 ma3 no3 se3 st3 gr3 sa3 fr3 gs3 le3 t13 t23 t33 t43 ke3 K' hI' => ?_)
  exact hm _ _ _ _ _ _ _ _ _ _ _ _ _ _ _ _ _ _ _ _ _ K' ⟨rfl, h.hbz, rfl, hca.symm, hca.symm, rfl, rfl, hI, hI', by omega, Or.inr hp0⟩
/-- a token's fact -/
def tkf (q : Int32 × Int32 × Int32 × Int32) (x : Nat) : Int32 := if x = 0 then q.1 else if x = 1 then q.2.1 else if x = 2 then q.2.2.1 else q.2.2.2
def dropF (S : SS) : SS := SS.mk S.M S.k S.kp S.ca S.p S.lt (S.t - 1) (fun i => S.tk (i + 1))
/-- none is ready -/
theorem q2_token1 {Am : Nat → Auto} {Gm : Nat → Nat → Nat} {S : SS} {o o' : Nat} {th en mo kc ca pc lo stt mt mr ol sz : Int32} {pe fc ke : Nat → Int32} {th' en' mo' kc' ca' pc' lo' tc' ol' : Int32} {le t1 t2 t3 t4 ke' : Nat → Int32} (h : WS Am Gm S o o' th en mo kc ca pc lo stt mt mr ol sz pe fc ke th' en' mo' kc' ca' pc' lo' tc' ol' le t1 t2 t3 t4 ke') (h0 : sz = 0) {x1 : Int32} {pm : Int32 → Int32 → Prop} (hm : pm 0 1) : p_M_token tc' ol' t4 t3 t2 t1 x1 pm := by
  have e : tc' = 0 := by rw [h.hr.tc, ← h.hc.sz, h0]
  subst e
  exact ⟨fun z => absurd rfl z, fun _ => hm⟩
/-- no such fact -/
theorem q2_token2 {Am : Nat → Auto} {Gm : Nat → Nat → Nat} {S : SS} {o o' : Nat} {th en mo kc ca pc lo stt mt mr ol sz : Int32} {pe fc ke : Nat → Int32} {th' en' mo' kc' ca' pc' lo' tc' ol' : Int32} {le t1 t2 t3 t4 ke' : Nat → Int32} (h : WS Am Gm S o o' th en mo kc ca pc lo stt mt mr ol sz pe fc ke th' en' mo' kc' ca' pc' lo' tc' ol' le t1 t2 t3 t4 ke') (h0 : ¬ sz = 0) {x1 : Int32} (hx : x1 < 0 ∨ ¬ x1 < 4) {pm : Int32 → Int32 → Prop} (hm : pm 0 2) : p_M_token tc' ol' t4 t3 t2 t1 x1 pm := by
  have e : ¬ tc' = 0 := by rw [h.hr.tc, ← h.hc.sz]; exact h0
  refine ⟨fun _ => ⟨fun _ => hm, fun z => ⟨fun z2 => ?_, fun _ => hm⟩⟩, fun z => absurd z e⟩
  exfalso
  obtain ⟨j, hj, ej⟩ := nI_of2 (M := 3) (n := 3) (by decide) z z2
  rcases hx with y | y
  · exact z y
  · subst ej
    exact y (nI_lt (b := 4) (by omega) (by omega))
/-- a token's fact is told -/
theorem q2_token0 {Am : Nat → Auto} {Gm : Nat → Nat → Nat} {S : SS} {o o' : Nat} {th en mo kc ca pc lo stt mt mr ol sz : Int32} {pe fc ke : Nat → Int32} {th' en' mo' kc' ca' pc' lo' tc' ol' : Int32} {le t1 t2 t3 t4 ke' : Nat → Int32} (h : WS Am Gm S o o' th en mo kc ca pc lo stt mt mr ol sz pe fc ke th' en' mo' kc' ca' pc' lo' tc' ol' le t1 t2 t3 t4 ke') (h0 : ¬ sz = 0) {x1 : Int32} (hx : ¬ x1 < 0) (hx2 : x1 < 4) {post : Int32 → Prop} (hp : ∀ r, (∀ pm : Int32 → Int32 → Prop, pm r 0 → p_M_token tc' ol' t4 t3 t2 t1 x1 pm) → post r) : p_TB_tokenR ol sz fc x1 post := by
  obtain ⟨x, hx4, e⟩ : ∃ x, x < 4 ∧ x1 = nI x := by
    rcases pk_ix x1 (n := 4) (by omega) with y | y | y
    · exact absurd y hx
    · exact absurd hx2 (Int32.not_lt.mpr y)
    · exact y
  subst e
  have e : ¬ tc' = 0 := by rw [h.hr.tc, ← h.hc.sz]; exact h0
  have ht : 0 < S.t := by
    rcases Nat.eq_zero_or_pos S.t with y | y
    · exact absurd (by rw [h.hc.sz, y]; rfl) h0
    · exact y
  have e3 := h.eol
  have e4 := h.eol2
  subst e3 e4
  obtain ⟨c0, ck⟩ := h.hc.tk
  obtain ⟨r0, rk⟩ := h.hr.tk
  obtain ⟨k1, k2, k3, k4⟩ := ck 0 ht
  obtain ⟨l1, l2, l3, l4⟩ := rk 0 ht
  have eo : (o + 0) % 72 = o := Nat.mod_eq_of_lt c0
  have eo' : (o' + 0) % 400 = o' := Nat.mod_eq_of_lt r0
  rw [eo] at k1 k2 k3 k4
  rw [eo'] at l1 l2 l3 l4
  have ev : fc (o * 4 + x) = tkf (S.tk 0) x := by
    rcases (by omega : x = 0 ∨ x = 1 ∨ x = 2 ∨ x = 3) with y | y | y | y <;> subst y
    · exact k1
    · exact k2
    · exact k3
    · exact k4
  have ei : nI o * 4 + nI x = nI (o * 4 + x) := by rw [show (4 : Int32) = nI 4 from rfl, pk_mul, nI_add]
  refine ⟨fun _ => ⟨fun z => absurd z hx, fun _ => ⟨fun _ => ?_, fun z => absurd hx2 z⟩⟩, fun z => absurd z h0⟩
  show vp_in (nI o * 4 + nI x) 288 ∧ post (fc (nI o * 4 + nI x).toNatClampNeg)
  rw [ei, nI_clamp (by omega), ev]
  refine ⟨vp_in_nI (by omega) (by omega), hp _ (fun pm hm => ⟨fun _ => ⟨fun z => absurd z hx, fun _ => ⟨fun _ => ?_, fun z => absurd (nI_le (b := 3) (by omega) (by omega)) z⟩⟩, fun z => absurd z e⟩)⟩
  have ci : (nI o').toNatClampNeg = o' := nI_clamp (by omega)
  have vi : vp_in (nI o') 400 := vp_in_nI (by omega) (by omega)
  rw [ci, l1, l2, l3, l4]
  rcases (by omega : x = 0 ∨ x = 1 ∨ x = 2 ∨ x = 3) with y | y | y | y <;> subst y
  · exact ⟨fun z => absurd rfl z, fun _ => ⟨vi, hm⟩⟩
  · exact ⟨fun _ => ⟨fun z => absurd rfl z, fun _ => ⟨vi, hm⟩⟩, fun z => absurd z (by decide)⟩
  · exact ⟨fun _ => ⟨fun _ => ⟨fun z => absurd rfl z, fun _ => ⟨vi, hm⟩⟩, fun z => absurd z (by decide)⟩, fun z => absurd z (by decide)⟩
  · exact ⟨fun _ => ⟨fun _ => ⟨fun _ => ⟨vi, hm⟩, fun z => absurd z (by decide)⟩, fun z => absurd z (by decide)⟩, fun z => absurd z (by decide)⟩
theorem q2_take1 {Am : Nat → Auto} {Gm : Nat → Nat → Nat} {S : SS} {o o' : Nat} {th en mo kc ca pc lo stt mt mr ol sz : Int32} {pe fc ke : Nat → Int32} {th' en' mo' kc' ca' pc' lo' tc' ol' : Int32} {le t1 t2 t3 t4 ke' : Nat → Int32} (h : WS Am Gm S o o' th en mo kc ca pc lo stt mt mr ol sz pe fc ke th' en' mo' kc' ca' pc' lo' tc' ol' le t1 t2 t3 t4 ke') (h0 : sz = 0) {pm : Int32 → Int32 → Int32 → Prop} (hm : pm 1 tc' ol') : p_M_take tc' ol' pm := by
  have e : tc' = 0 := by rw [h.hr.tc, ← h.hc.sz, h0]
  exact ⟨fun z => absurd e z, fun _ => hm⟩
theorem q2_take0 {Am : Nat → Auto} {Gm : Nat → Nat → Nat} {S : SS} {o o' : Nat} {th en mo kc ca pc lo stt mt mr ol sz : Int32} {pe fc ke : Nat → Int32} {th' en' mo' kc' ca' pc' lo' tc' ol' : Int32} {le t1 t2 t3 t4 ke' : Nat → Int32} (h : WS Am Gm S o o' th en mo kc ca pc lo stt mt mr ol sz pe fc ke th' en' mo' kc' ca' pc' lo' tc' ol' le t1 t2 t3 t4 ke') (h0 : ¬ sz = 0) {post : Int32 → Int32 → Prop} (hp : ∀ a b, (∀ pm : Int32 → Int32 → Int32 → Prop, (∀ S2 o2 o2' c d, WS Am Gm S2 o2 o2' th en mo kc ca pc lo stt mt mr a b pe fc ke th' en' mo' kc' ca' pc' lo' c d le t1 t2 t3 t4 ke' → pm 0 c d) → p_M_take tc' ol' pm) → post a b) : p_TB_takeR ol sz post := by
  have e : ¬ tc' = 0 := by rw [h.hr.tc, ← h.hc.sz]; exact h0
  have ht : 0 < S.t := by
    rcases Nat.eq_zero_or_pos S.t with y | y
    · exact absurd (by rw [h.hc.sz, y]; rfl) h0
    · exact y
  have e3 := h.eol
  have e4 := h.eol2
  have e5 := h.hc.sz
  have e6 := h.hr.tc
  subst e3 e4 e5 e6
  obtain ⟨c0, ck⟩ := h.hc.tk
  obtain ⟨r0, rk⟩ := h.hr.tk
  have a1 : nI o + 1 - (nI o + 1) / 72 * 72 = nI ((o + 1) % 72) := by rw [nI_1]; exact pk_rem (d := 72) (by omega) (by omega) (by omega)
  have a2 : nI o' + 1 - (nI o' + 1) / 400 * 400 = nI ((o' + 1) % 400) := by rw [nI_1]; exact pk_rem (d := 400) (by omega) (by omega) (by omega)
  have a3 : nI S.t - 1 = nI (S.t - 1) := pk_sub (a := S.t) (b := 1) (by omega)
  refine ⟨fun _ => ?_, fun z => absurd z h0⟩
  show post (nI o + 1 - (nI o + 1) / 72 * 72) (nI S.t - 1)
  rw [a1, a3]
  refine hp _ _ (fun pm hm => ⟨fun _ => ?_, fun z => absurd z e⟩)
  rw [a2, a3]
  have hok : (dropF S).Ok := ⟨h.hc.ok.M, h.hc.ok.k, h.hc.ok.kp, h.hc.ok.p, h.hc.ok.lt, by
    have := h.hc.ok.tp
    show S.t - 1 + S.p ≤ 71
    omega⟩
  refine hm (dropF S) ((o + 1) % 72) ((o' + 1) % 400) _ _ ⟨h.eth, h.hbz, h.een, h.eca, h.eca2, rfl, rfl, ⟨hok, h.hc.mo, h.hc.kc, h.hc.pc, h.hc.lo, h.hc.stt, h.hc.mt, h.hc.mr, h.hc.lp, h.hc.no, h.hc.pe, rfl, ⟨Nat.mod_lt _ (by omega), fun i hi => ?_⟩, h.hc.ke⟩, ⟨hok, h.hr.mo, h.hr.kc, h.hr.pc, h.hr.lo, h.hr.lp, h.hr.no, h.hr.le, rfl, ⟨Nat.mod_lt _ (by omega), fun i hi => ?_⟩, h.hr.ke⟩, h.hp, h.huw⟩
  · have hi : i < S.t - 1 := hi
    have := ck (i + 1) (by omega)
    rw [show ((o + 1) % 72 + i) % 72 = (o + (i + 1)) % 72 by omega]
    exact this
  · have hi : i < S.t - 1 := hi
    have := rk (i + 1) (by omega)
    rw [show ((o' + 1) % 400 + i) % 400 = (o' + (i + 1)) % 400 by omega]
    exact this