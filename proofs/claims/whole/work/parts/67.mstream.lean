/-! The reference's stream -/
theorem oc_go {A : Auto} {k c : Nat} : gT (A.to k c) = oc (trn A k c) := by
  unfold gT trn
  split <;> rfl
theorem ru_none {A : Auto} {lt : Nat → Nat} {k : Nat} (h : ru A lt k = none) : ∀ d, ru A lt (k + d) = none := by
  intro d
  induction d with
  | zero => exact h
  | succ d ih => show mst (trn A) (ru A lt (k + d)) _ = none; rw [ih]; rfl
theorem q_M_word {D : Md} (hD : DOk D) {M R : Nat} {many lts behind mo fs ls : Nat → Int32} (H : RefMd D M R many lts behind mo fs ls) {no se st : Nat → Int32} (hS : RS D M no se st) {p : Nat} (hp : p ≤ 48) {lt : Nat → Nat} (hlt : ∀ j, j < p → lt j < 6) {le : Nat → Int32} (hle : ∀ j, j < p → le j = nI (lt j)) {l : Nat} (hl : l ≤ p) {post : Int32 → Prop} (h : post (oc (ru D.au lt l))) : p_M_word (nI M) le st (nI l) post := by
  have hA := au_ok hD
  have hN := hA.le
  have key : ∀ (d k : Nat), k + d = l → ∃ q, p_M_word_4 (nI M) le st (nI l) post q (oc (ru D.au lt k)) (nI k) := by
    intro d
    induction d with
    | zero =>
      intro k hk
      have e : k = l := by omega
      subst e
      exact ⟨1, fun _ => h, fun z => absurd (nI_le (Nat.le_refl _) (by omega)) z⟩
    | succ d ih =>
      intro k hk
      cases e : ru D.au lt k with
      | none =>
        have hn := ru_none e (l - k)
        rw [show k + (l - k) = l by omega] at hn
        rw [hn] at h
        exact ⟨1, fun _ => h, fun _ => ⟨fun _ => h, fun z => absurd rfl z⟩⟩
      | some x =>
        have hx : x < D.au.N := by
          have := ru_oin hA k (fun j hj => hlt j (by omega))
          rw [e] at this; exact this
        obtain ⟨q, hq⟩ := ih (k + 1) (by omega)
        refine ⟨q + 1, fun z => absurd z (nI_ge (by omega) (by omega)), fun _ => ⟨fun z => absurd z (nI_nm1 (by omega)), fun _ => ⟨vp_in_nI (by omega) (by omega), ?_⟩⟩⟩
        rw [nI_clamp (n := k) (by omega), hle k (by omega), nI_1]
        refine q_M_go hA H.hM hS hx (hlt k (by omega)) ?_
        rw [oc_go]
        have e2 : ru D.au lt (k + 1) = trn D.au x (lt k) := by
          show mst (trn D.au) (ru D.au lt k) (lt k) = _
          rw [e]; rfl
        rw [← e2]
        exact hq
  obtain ⟨q, hq⟩ := key l 0 (by omega)
  exact ⟨q, hq⟩
theorem q_M_isOver {D : Md} (hD : DOk D) {M R : Nat} {many lts behind mo fs ls : Nat → Int32} (H : RefMd D M R many lts behind mo fs ls) {no se st : Nat → Int32} (hS : RS D M no se st) {p : Nat} (hp : p ≤ 48) {lt : Nat → Nat} (hlt : ∀ j, j < p → lt j < 6) {le : Nat → Int32} (hle : ∀ j, j < p → le j = nI (lt j)) {l : Nat} (hl : l ≤ p) {post : Int32 → Prop} (h1 : over D.au lt l → post 1) (h0 : ¬ over D.au lt l → post 0) : p_M_isOver (nI M) le st (nI l) post := by
  have hA := au_ok hD
  have hN := hA.le
  refine q_M_word hD H hS hp hlt hle hl ⟨fun z => ?_, fun z => h1 ?_⟩
  · cases e : ru D.au lt l with
    | none => rw [e] at z; exact absurd rfl z
    | some x =>
      have hx : x < D.au.N := by
        have := ru_oin hA l (fun j hj => hlt j (by omega))
        rw [e] at this; exact this
      have hov : over D.au lt l ↔ ∀ c, c < 6 → trn D.au x c = none := by
        unfold over; rw [e]; exact Iff.rfl
      refine pk_loop (fun q c (_ : Unit) => p_M_isOver_15 (nI M) st post q (oc (some x)) (nI c)) (fun c _ => ∀ d, d < c → trn D.au x d = none) 6 0 () (Nat.zero_le _) (fun d hd => absurd hd (Nat.not_lt_zero _)) ?_ ?_
      · intro q _ hI
        exact ⟨fun _ => h1 (hov.mpr hI), fun z => absurd (by decide) z⟩
      · intro q c _ hc hI hk
        refine ⟨fun z => absurd z (nI_ge (b := 6) hc (by omega)), fun _ => q_M_go hA H.hM hS hx hc ?_⟩
        rw [oc_go, nI_1]
        have ho := trn_oin hA (o := some x) hx hc
        cases e2 : trn D.au x c with
        | none =>
          exact ⟨fun _ => hk () (fun d hd => by
            by_cases y : d = c
            · rw [y]; exact e2
            · exact hI d (by omega)), fun y => absurd rfl y⟩
        | some y =>
          have hy : y < D.au.N := by
            have : mst (trn D.au) (some x) c = some y := e2
            rw [this] at ho; exact ho
          exact ⟨fun q => absurd q (nI_nm1 (by omega)), fun _ => h0 (fun q => by
            have := hov.mp q c hc
            rw [e2] at this; cases this)⟩
  · intro c hc
    cases e : ru D.au lt l with
    | none => rfl
    | some x =>
      rw [e] at z
      have hx : x < D.au.N := by
        have := ru_oin hA l (fun j hj => hlt j (by omega))
        rw [e] at this; exact this
      exact absurd z (nI_nm1 (by omega))
/-- tokens in the reference's ring -/
def RTk (t : Nat) (tk : Nat → Int32 × Int32 × Int32 × Int32) (o : Nat) (t1 t2 t3 t4 : Nat → Int32) : Prop := o < 400 ∧ ∀ i, i < t → t1 ((o + i) % 400) = (tk i).1 ∧ t2 ((o + i) % 400) = (tk i).2.1 ∧ t3 ((o + i) % 400) = (tk i).2.2.1 ∧ t4 ((o + i) % 400) = (tk i).2.2.2
/-- the reference's stream holds S -/
def RSt (Am : Nat → Auto) (S : SS) (l : Nat) (mo kc pc lo tc : Int32) (le t1 t2 t3 t4 ke : Nat → Int32) (o : Nat) : Prop :=
  (S.Ok) ∧
  (mo = nI S.M) ∧
  (kc = nI S.k) ∧
  (pc = nI S.p) ∧
  (lo = nI l) ∧
  (l ≤ S.p) ∧
  (∀ l', 1 ≤ l' → l' ≤ l → ¬ over (Am S.M) S.lt l') ∧
  (∀ j, j < S.p → le j = nI (S.lt j)) ∧
  (tc = nI S.t) ∧
  (RTk S.t S.tk o t1 t2 t3 t4) ∧
  (∀ j, j < S.k → ke j = nI (S.kp j))
theorem RSt.ok {Am : Nat → Auto} {S : SS} {l : Nat} {mo kc pc lo tc : Int32} {le t1 t2 t3 t4 ke : Nat → Int32} {o : Nat} (h_ : RSt Am S l mo kc pc lo tc le t1 t2 t3 t4 ke o) : S.Ok := h_.1
theorem RSt.mo {Am : Nat → Auto} {S : SS} {l : Nat} {mo kc pc lo tc : Int32} {le t1 t2 t3 t4 ke : Nat → Int32} {o : Nat} (h_ : RSt Am S l mo kc pc lo tc le t1 t2 t3 t4 ke o) : mo = nI S.M := h_.2.1
theorem RSt.kc {Am : Nat → Auto} {S : SS} {l : Nat} {mo kc pc lo tc : Int32} {le t1 t2 t3 t4 ke : Nat → Int32} {o : Nat} (h_ : RSt Am S l mo kc pc lo tc le t1 t2 t3 t4 ke o) : kc = nI S.k := h_.2.2.1
theorem RSt.pc {Am : Nat → Auto} {S : SS} {l : Nat} {mo kc pc lo tc : Int32} {le t1 t2 t3 t4 ke : Nat → Int32} {o : Nat} (h_ : RSt Am S l mo kc pc lo tc le t1 t2 t3 t4 ke o) : pc = nI S.p := h_.2.2.2.1
theorem RSt.lo {Am : Nat → Auto} {S : SS} {l : Nat} {mo kc pc lo tc : Int32} {le t1 t2 t3 t4 ke : Nat → Int32} {o : Nat} (h_ : RSt Am S l mo kc pc lo tc le t1 t2 t3 t4 ke o) : lo = nI l := h_.2.2.2.2.1
theorem RSt.lp {Am : Nat → Auto} {S : SS} {l : Nat} {mo kc pc lo tc : Int32} {le t1 t2 t3 t4 ke : Nat → Int32} {o : Nat} (h_ : RSt Am S l mo kc pc lo tc le t1 t2 t3 t4 ke o) : l ≤ S.p := h_.2.2.2.2.2.1
theorem RSt.no {Am : Nat → Auto} {S : SS} {l : Nat} {mo kc pc lo tc : Int32} {le t1 t2 t3 t4 ke : Nat → Int32} {o : Nat} (h_ : RSt Am S l mo kc pc lo tc le t1 t2 t3 t4 ke o) : ∀ l', 1 ≤ l' → l' ≤ l → ¬ over (Am S.M) S.lt l' := h_.2.2.2.2.2.2.1
theorem RSt.le {Am : Nat → Auto} {S : SS} {l : Nat} {mo kc pc lo tc : Int32} {le t1 t2 t3 t4 ke : Nat → Int32} {o : Nat} (h_ : RSt Am S l mo kc pc lo tc le t1 t2 t3 t4 ke o) : ∀ j, j < S.p → le j = nI (S.lt j) := h_.2.2.2.2.2.2.2.1
theorem RSt.tc {Am : Nat → Auto} {S : SS} {l : Nat} {mo kc pc lo tc : Int32} {le t1 t2 t3 t4 ke : Nat → Int32} {o : Nat} (h_ : RSt Am S l mo kc pc lo tc le t1 t2 t3 t4 ke o) : tc = nI S.t := h_.2.2.2.2.2.2.2.2.1
theorem RSt.tk {Am : Nat → Auto} {S : SS} {l : Nat} {mo kc pc lo tc : Int32} {le t1 t2 t3 t4 ke : Nat → Int32} {o : Nat} (h_ : RSt Am S l mo kc pc lo tc le t1 t2 t3 t4 ke o) : RTk S.t S.tk o t1 t2 t3 t4 := h_.2.2.2.2.2.2.2.2.2.1
theorem RSt.ke {Am : Nat → Auto} {S : SS} {l : Nat} {mo kc pc lo tc : Int32} {le t1 t2 t3 t4 ke : Nat → Int32} {o : Nat} (h_ : RSt Am S l mo kc pc lo tc le t1 t2 t3 t4 ke o) : ∀ j, j < S.k → ke j = nI (S.kp j) := h_.2.2.2.2.2.2.2.2.2.2

theorem q_M_act {a M k : Nat} {kp : Nat → Nat} (ha : a ≤ 4) (hk : k ≤ 5) {ke : Nat → Int32} (hke : ∀ j, j < k → ke j = nI (kp j)) {acf : Nat → Int32} {r : Int32} (hr : (r = -1 ∧ a = 0) ∨ ∃ q, q < 16 ∧ r = nI q ∧ acf q = nI a) {pc lo tc : Int32} {le t1 t2 t3 t4 : Nat → Int32} {post : _}
    (hp : ∀ ke', (∀ j, j < (actF a M k kp).2.1 → ke' j = nI ((actF a M k kp).2.2 j)) → post (nI (actF a M k kp).1) (nI (actF a M k kp).2.1) pc 0 tc le t1 t2 t3 t4 ke') : p_M_cut_186 acf post r (nI M) (nI k) pc lo tc le t1 t2 t3 t4 ke := by
  unfold actF at hp
  have h258 : ∀ (b : Nat) (M' k' : Nat) ke', b ≤ 4 → b ≠ 4 → post (nI M') (nI k') pc 0 tc le t1 t2 t3 t4 ke' → p_M_cut_258 post (nI b) (nI M') (nI k') pc 0 tc le t1 t2 t3 t4 ke' := fun b M' k' ke' hb hb4 hq => ⟨fun _ => hq, fun z => absurd ((nI_eq (b := 4) (by omega) (by omega)).mp z) hb4⟩
  rcases hr with ⟨rfl, rfl⟩ | ⟨q, hq, rfl, hacf⟩
  · rw [if_pos rfl] at hp
    exact ⟨fun z => absurd rfl z, fun _ => h258 0 M k ke (by omega) (by omega) (hp ke hke)⟩
  · refine ⟨fun _ => ⟨vp_in_nI hq (by omega), ?_⟩, fun z => absurd z (nI_nm1 (by omega))⟩
    rw [nI_clamp (n := q) (by omega), hacf]
    by_cases a0 : a = 0
    · subst a0
      rw [if_pos rfl] at hp
      exact ⟨fun _ => h258 0 M k ke (by omega) (by omega) (hp ke hke), fun z => absurd (by decide) z⟩
    · refine ⟨fun z => absurd z (nI_nle (by omega) (by omega)), fun _ => ?_⟩
      rw [if_neg a0] at hp
      by_cases a4 : a = 4
      · subst a4
        rw [if_pos rfl] at hp
        refine ⟨fun _ => ⟨fun z => absurd rfl z, fun _ => ⟨fun z => ?_, fun z => ?_⟩⟩, fun z => absurd (by decide) z⟩
        · have : k = 0 := by
            rcases Nat.eq_zero_or_pos k with y | y
            · exact y
            · exact absurd z (nI_nle y (by omega))
          rw [if_pos this] at hp
          exact hp ke hke
        · have hk0 : 0 < k := by
            rcases Nat.eq_zero_or_pos k with y | y
            · subst y; exact absurd (by decide) z
            · exact y
          rw [if_neg (by omega)] at hp
          have e1 : nI k - 1 = nI (k - 1) := by rw [show k = k - 1 + 1 by omega, nI_pred]; simp
          rw [e1, nI_clamp (n := k - 1) (by omega), hke (k - 1) (by omega)]
          exact ⟨vp_in_nI (by omega) (by omega), hp ke (fun j hj => hke j (by have : j < k - 1 := hj; omega))⟩
      · rw [if_neg a4] at hp
        refine ⟨fun z => absurd z (nI_ge (b := 4) (by omega) (by omega)), fun _ => ⟨fun z => ?_, fun z => ?_⟩⟩
        · have : 5 ≤ k := by
            rcases Nat.lt_or_ge k 5 with y | y
            · exact absurd z (nI_ge (b := 5) y (by omega))
            · exact y
          rw [if_pos this] at hp
          exact h258 a M k ke ha a4 (hp ke hke)
        · have hk5 : k < 5 := by
            rcases Nat.lt_or_ge k 5 with y | y
            · exact y
            · exact absurd (nI_le (a := 5) y (by omega)) z
          rw [if_neg (by omega)] at hp
          rw [nI_1, nI_clamp (n := k) (by omega), show nI a - 1 = nI (a - 1) by rw [show a = a - 1 + 1 by omega, nI_pred]; simp]
          refine ⟨vp_in_nI hk5 (by omega), h258 a (a - 1) (k + 1) _ ha a4 (hp _ (fun j hj => ?_))⟩
          have hj : j < k + 1 := hj
          show upd ke k (nI M) j = nI (updN kp k M j)
          by_cases e : j = k
          · subst e; rw [pk_us, updN_s]
          · rw [pk_un e, updN_n e]; exact hke j (by omega)
theorem q_M_tok {t o : Nat} {tk : Nat → Int32 × Int32 × Int32 × Int32} {t1 t2 t3 t4 : Nat → Int32} (h : RTk t tk o t1 t2 t3 t4) (ht : t < 399) {x1 x2 x3 x4 : Int32} : nI o + nI t - (nI o + nI t) / 400 * 400 = nI ((o + t) % 400) ∧ (o + t) % 400 < 400 ∧ RTk (t + 1) (fun i => if i = t then (x1, x2, x3, x4) else tk i) o (upd t1 ((o + t) % 400) x1) (upd t2 ((o + t) % 400) x2) (upd t3 ((o + t) % 400) x3) (upd t4 ((o + t) % 400) x4) := by
  obtain ⟨ho, h⟩ := h
  refine ⟨by rw [nI_add]; exact pk_rem (d := 400) (by omega) (by omega) (by omega), Nat.mod_lt _ (by omega), ho, fun i hi => ?_⟩
  by_cases e : i = t
  · subst e
    dsimp only
    rw [if_pos rfl]
    exact ⟨pk_us, pk_us, pk_us, pk_us⟩
  · dsimp only
    rw [if_neg e]
    have hne : (o + i) % 400 ≠ (o + t) % 400 := by omega
    rw [pk_un hne, pk_un hne, pk_un hne, pk_un hne]
    exact h i (by omega)
theorem q_M_cut {D : Nat → Md} {G : Nat → Nat → Nat} {n : Nat → Nat} {s : Nat → Nat → Nat} {R : Nat} {many lts be mo fs ls : Nat → Int32} (T : RT D G n s R many lts be mo fs ls) {ac : Nat → Nat} (hac : ∀ r, ac r ≤ 4) {acf : Nat → Int32} (hacf : ∀ r, r < 16 → acf r = nI (ac r)) {no se st : Nat → Int32} {S : SS} (hS : RS (D S.M) S.M no se st) {L : Nat} {en : Prop} (hL : Due ((D S.M).au) en S.p S.lt L) {o : Nat} {le t1 t2 t3 t4 ke : Nat → Int32} (hI : RSt (fun M => (D M).au) S 0 (nI S.M) (nI S.k) (nI S.p) 0 (nI S.t) le t1 t2 t3 t4 ke o) {lo : Int32} {post : _}
    (hp : ∀ mo' kc' pc' tc' le' t1' t2' t3' t4' ke', RSt (fun M => (D M).au) (cutF (fun M => (D M).au) ac S L) 0 mo' kc' pc' 0 tc' le' t1' t2' t3' t4' ke' o → post mo' kc' pc' 0 tc' le' t1' t2' t3' t4' ke') :
    p_M_cut (nI R) (nI S.M) (nI S.k) S.ca (nI S.p) lo (nI S.t) (nI o) le st mo se ls t1 t2 t3 t4 acf ke (nI L) post := by
  have hSo := hI.ok
  have hM := hSo.M
  have hD := T.dok _ hM
  have hA := au_ok hD
  have hN := hA.le
  have hp48 := hSo.p
  have htp := hSo.tp
  obtain ⟨hok, hpl⟩ := cutF_ok (Am := fun M => (D M).au) (ac := ac) hac hSo hL
  have hlw := @lw_le (D S.M).au S.lt L
  obtain ⟨l1, l2, -, -⟩ := hL
  have hm1 : 1 ≤ max (lw (D S.M).au S.lt L) 1 := Nat.le_max_right _ _
  have hm2 : max (lw (D S.M).au S.lt L) 1 ≤ S.p := Nat.max_le.mpr ⟨by omega, by omega⟩
  -- what is left once size and rule are known
  have tail : p_M_cut_64 S.ca (nI o) acf post (nI (lw (D S.M).au S.lt L)) (lr (D S.M).au S.lt L) (nI S.M) (nI S.k) (nI S.p) lo (nI S.t) le t1 t2 t3 t4 ke := by
    have main : ∀ sz, sz = max (lw (D S.M).au S.lt L) 1 → ∃ k, p_M_cut_155 acf post k (nI sz) (lr (D S.M).au S.lt L) 0 (nI S.M) (nI S.k) (nI S.p - nI sz) lo (nI S.t + 1) le (upd t1 ((o + S.t) % 400) (lr (D S.M).au S.lt L)) (upd t2 ((o + S.t) % 400) (S.ca - nI S.p)) (upd t3 ((o + S.t) % 400) (nI sz)) (upd t4 ((o + S.t) % 400) (nI S.M)) ke := by
      intro sz esz
      rw [← esz] at hm1 hm2
      have htk := (q_M_tok hI.tk (by omega) (x1 := lr (D S.M).au S.lt L) (x2 := S.ca - nI S.p) (x3 := nI sz) (x4 := nI S.M)).2.2
      rw [pk_sub hm2, nI_1]
      refine pk_loop (fun k j le => p_M_cut_155 acf post k (nI sz) (lr (D S.M).au S.lt L) (nI j) (nI S.M) (nI S.k) (nI (S.p - sz)) lo (nI (S.t + 1)) le (upd t1 ((o + S.t) % 400) (lr (D S.M).au S.lt L)) (upd t2 ((o + S.t) % 400) (S.ca - nI S.p)) (upd t3 ((o + S.t) % 400) (nI sz)) (upd t4 ((o + S.t) % 400) (nI S.M)) ke) (fun j le => (∀ i, i < j → le i = nI (S.lt (i + sz))) ∧ ∀ i, j ≤ i → i < S.p → le i = nI (S.lt i)) (S.p - sz) 0 le (Nat.zero_le _) ⟨fun i hi => absurd hi (Nat.not_lt_zero _), fun i _ hi => hI.le i hi⟩ ?_ ?_
      · intro k le' hJ
        refine ⟨fun _ => ?_, fun z => absurd (nI_le (Nat.le_refl _) (by omega)) z⟩
        have hcut : cutF (fun M => (D M).au) ac S L = SS.mk (actF (if lr (D S.M).au S.lt L = -1 then 0 else ac (lr (D S.M).au S.lt L).toNatClampNeg) S.M S.k S.kp).1 (actF (if lr (D S.M).au S.lt L = -1 then 0 else ac (lr (D S.M).au S.lt L).toNatClampNeg) S.M S.k S.kp).2.1 (actF (if lr (D S.M).au S.lt L = -1 then 0 else ac (lr (D S.M).au S.lt L).toNatClampNeg) S.M S.k S.kp).2.2 S.ca (S.p - sz) (fun j => S.lt (j + sz)) (S.t + 1) (fun i => if i = S.t then (lr (D S.M).au S.lt L, S.ca - nI S.p, nI sz, nI S.M) else S.tk i) := by
          rw [esz]; rfl
        have ha4 : (if lr (D S.M).au S.lt L = -1 then 0 else ac (lr (D S.M).au S.lt L).toNatClampNeg) ≤ 4 := by
          split
          · omega
          · exact hac _
        refine q_M_act (a := if lr (D S.M).au S.lt L = -1 then 0 else ac (lr (D S.M).au S.lt L).toNatClampNeg) ha4 hSo.k hI.ke ?_ (fun ke' hke' => hp _ _ _ _ _ _ _ _ _ _ ?_)
        · rcases lr_in hA L (fun j hj => hSo.lt j (by omega)) with ⟨er, -⟩ | ⟨r, hr, er, -⟩
          · exact Or.inl ⟨er, if_pos er⟩
          · refine Or.inr ⟨r, hr, er, ?_⟩
            rw [er, if_neg (nI_nm1 (by omega)), nI_clamp (by omega)]
            exact hacf r hr
        · rw [hcut] at hok ⊢
          exact ⟨hok, rfl, rfl, rfl, rfl, Nat.zero_le _, fun l' a b => by omega, hJ.1, rfl, htk, hke'⟩
      · intro k j le' hj hJ hk
        refine ⟨fun z => absurd z (nI_ge hj (by omega)), fun _ => ?_⟩
        rw [nI_add, nI_clamp (n := j + sz) (by omega), nI_clamp (n := j) (by omega), nI_1, hJ.2 (j + sz) (by omega) (by omega)]
        refine ⟨vp_in_nI (by omega) (by omega), vp_in_nI (by omega) (by omega), hk _ ⟨fun i hi => ?_, fun i h1 h2 => ?_⟩⟩
        · by_cases e : i = j
          · subst e; rw [pk_us]
          · rw [pk_un e]; exact hJ.1 i (by omega)
        · rw [pk_un (by omega)]; exact hJ.2 i (by omega) h2
    obtain ⟨em, hm, -⟩ := q_M_tok hI.tk (by omega) (x1 := 0) (x2 := 0) (x3 := 0) (x4 := 0)
    have hv : vp_in (nI ((o + S.t) % 400)) 400 := vp_in_nI hm (by omega)
    unfold p_M_cut_64
    rw [em, nI_clamp (n := (o + S.t) % 400) (by omega)]
    refine ⟨fun z => ⟨hv, hv, hv, hv, main _ ?_⟩, fun z => ⟨hv, hv, hv, hv, main 1 ?_⟩⟩
    · have : lw (D S.M).au S.lt L ≠ 0 := fun q => z (by rw [q]; rfl)
      exact (Nat.max_eq_left (by omega)).symm
    · have : lw (D S.M).au S.lt L = 0 := (nI_eq (b := 0) (by omega) (by omega)).mp z
      rw [this]; rfl
  have key : ∀ (d k : Nat), k + d = L + 1 → 1 ≤ k → ∃ q, p_M_cut_7 (nI R) S.ca (nI o) st mo se ls acf (nI L) post q (nI (lw (D S.M).au S.lt (k - 1))) (lr (D S.M).au S.lt (k - 1)) (nI k) (nI S.M) (nI S.k) (nI S.p) lo (nI S.t) le t1 t2 t3 t4 ke := by
    intro d
    induction d with
    | zero =>
      intro k hk h1
      have e : k = L + 1 := by omega
      subst e
      refine ⟨1, fun _ => ?_, fun z => absurd (nI_lt (by omega) (by omega)) z⟩
      rw [show L + 1 - 1 = L by omega]
      exact tail
    | succ d ih =>
      intro k hk h1
      obtain ⟨q, hq⟩ := ih (k + 1) (by omega) (by omega)
      rw [show k + 1 - 1 = k by omega] at hq
      refine ⟨q + 1, fun z => absurd z (nI_nlt (by omega) (by omega)), fun _ => ?_⟩
      refine q_M_word hD (T.rd _ hM) hS hp48 hSo.lt hI.le (l := k) (by omega) ?_
      have hk1 : k = k - 1 + 1 := by omega
      have hsame : wv (D S.M).au S.lt k = -1 → p_M_cut_7 (nI R) S.ca (nI o) st mo se ls acf (nI L) post q (nI (lw (D S.M).au S.lt (k - 1))) (lr (D S.M).au S.lt (k - 1)) (nI k + 1) (nI S.M) (nI S.k) (nI S.p) lo (nI S.t) le t1 t2 t3 t4 ke := fun z => by
        rw [nI_1]
        have e1 : lw (D S.M).au S.lt k = lw (D S.M).au S.lt (k - 1) := by
          conv => lhs; rw [hk1]; unfold lw
          rw [← hk1, if_pos z]
        have e2 : lr (D S.M).au S.lt k = lr (D S.M).au S.lt (k - 1) := by
          conv => lhs; rw [hk1]; unfold lr
          rw [← hk1, if_pos z]
        rw [← e1, ← e2]; exact hq
      cases e : ru (D S.M).au S.lt k with
      | none =>
        refine ⟨fun z => absurd rfl z, fun _ => hsame ?_⟩
        unfold wv; rw [e]; rfl
      | some x =>
        have hx : x < (D S.M).au.N := by
          have := ru_oin hA k (fun j hj => hSo.lt j (by omega))
          rw [e] at this; exact this
        have hwv : wv (D S.M).au S.lt k = (D S.M).au.wn x := by unfold wv; rw [e]; rfl
        refine ⟨fun _ => q_M_winsN hD (T.rd _ hM) hS hx ?_, fun z => absurd z (nI_nm1 (by omega))⟩
        rw [← hwv]
        refine ⟨fun z => ?_, fun z => hsame z⟩
        show p_M_cut_7 (nI R) S.ca (nI o) st mo se ls acf (nI L) post q (nI k) (wv (D S.M).au S.lt k) (nI k + 1) (nI S.M) (nI S.k) (nI S.p) lo (nI S.t) le t1 t2 t3 t4 ke
        rw [nI_1]
        have e1 : lw (D S.M).au S.lt k = k := by
          conv => lhs; rw [hk1]; unfold lw
          rw [← hk1, if_neg z]
        have e2 : lr (D S.M).au S.lt k = wv (D S.M).au S.lt k := by
          conv => lhs; rw [hk1]; unfold lr
          rw [← hk1, if_neg z]
        rw [e1, e2] at hq
        exact hq
  obtain ⟨q, hq⟩ := key L 1 (by omega) (Nat.le_refl _)
  exact ⟨q, hq⟩