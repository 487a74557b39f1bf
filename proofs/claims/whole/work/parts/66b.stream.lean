/-! The program's stream -/
theorem wv_in {A : Auto} (hA : A.Ok) {lt : Nat → Nat} {l : Nat} (h : ∀ j, j < l → lt j < 6) : wv A lt l = -1 ∨ ∃ r, r < 16 ∧ wv A lt l = nI r := by
  have := ru_oin hA l h
  unfold wv
  cases e : ru A lt l with
  | none => exact Or.inl rfl
  | some k => rw [e] at this; exact hA.wn k this
theorem lr_in {A : Auto} (hA : A.Ok) {lt : Nat → Nat} : ∀ l, (∀ j, j < l → lt j < 6) → (lr A lt l = -1 ∧ lw A lt l = 0) ∨ ∃ r, r < 16 ∧ lr A lt l = nI r ∧ 1 ≤ lw A lt l := by
  intro l
  induction l with
  | zero => intro _; exact Or.inl ⟨rfl, rfl⟩
  | succ l ih =>
    intro h
    unfold lr lw
    by_cases e : wv A lt (l + 1) = -1
    · rw [if_pos e, if_pos e]; exact ih (fun j hj => h j (by omega))
    · rw [if_neg e, if_neg e]
      rcases wv_in hA h with z | ⟨r, h1, h2⟩
      · exact absurd z e
      · exact Or.inr ⟨r, h1, h2, by omega⟩
theorem map_oin {A : Auto} (hA : A.Ok) {g s : Nat → Nat} {n : Nat} {fa fw : Nat → Int32} (hM : Mini A g n s) (hC : Mach A g n s fa fw) {o : Option Nat} (h : oin A.N o) : oin n (o.map g) := by
  cases o with
  | none => exact trivial
  | some k => exact hM.can.2 k h
theorem q_lookO {A : Auto} (hA : A.Ok) {g s : Nat → Nat} {n : Nat} {fa fw : Nat → Int32} (hM : Mini A g n s) (hC : Mach A g n s fa fw) {o : Option Nat} (ho : oin A.N o) {c : Nat} (hc : c < 6) {post : Int32 → Prop} (h : post (oc ((mst (trn A) o c).map g))) : p_Machine_after n (6 * n) fa (oc (o.map g)) (nI c) post := by
  rw [← mst_map hA hM ho hc] at h
  exact q_aftO (QM.of hA hM hC) (map_oin hA hM hC ho) hc h
theorem q_winO {A : Auto} (hA : A.Ok) {g s : Nat → Nat} {n : Nat} {fa fw : Nat → Int32} (hM : Mini A g n s) (hC : Mach A g n s fa fw) {o : Option Nat} (ho : oin A.N o) {post : Int32 → Prop} (h : post (wO A o)) : p_Machine_winnerOf n fw (oc (o.map g)) post := by
  have Q := QM.of hA hM hC
  have hle := Q.le
  refine q_winnerOf Q.le ?_
  cases o with
  | none => rw [show mWin n fw (oc (Option.map g none)) = -1 from if_neg (fun q => q.1 (show (-1 : Int32) < 0 by decide))]; exact h
  | some k =>
    obtain ⟨h1, h2, h3⟩ := hM.smp (show k < A.N from ho)
    have : mWin n fw (oc (Option.map g (some k))) = A.wn k := by
      show mWin n fw (nI (g k)) = _
      rw [mWin, if_pos ⟨nI_pos (by omega), nI_ge h1 (by omega)⟩, nI_clamp (by omega), hC.w _ h1]
      exact hM.wn h2 ho h3
    rw [this]; exact h
theorem q_goesO {A : Auto} (hA : A.Ok) {g s : Nat → Nat} {n : Nat} {fa fw : Nat → Int32} (hM : Mini A g n s) (hC : Mach A g n s fa fw) {o : Option Nat} (ho : oin A.N o) {post : Int32 → Prop} (h1 : (¬ ∀ c, c < 6 → mst (trn A) o c = none) → post 1) (h0 : (∀ c, c < 6 → mst (trn A) o c = none) → post 0) : p_Machine_goesOn n (6 * n) fa (oc (o.map g)) post := by
  have Q := QM.of hA hM hC
  have hle := Q.le
  have key : ∀ c, c < 6 → (mAft n fa (oc (o.map g)) (nI c) = -1 ↔ mst (trn A) o c = none) := fun c hc => by
    have e : mAft n fa (oc (o.map g)) (nI c) = oc ((mst (trn A) o c).map g) := by
      rw [← mst_map hA hM ho hc]
      cases o with
      | none => exact if_neg (fun q => q.1 (show (-1 : Int32) < 0 by decide))
      | some k =>
        have hk := hM.can.2 k ho
        show mAft n fa (nI (g k)) (nI c) = oc (trq A g s (g k) c)
        rw [Q.aft hk hc]
        cases e : trq A g s (g k) c with
        | none => exact Q.no _ c hk hc e
        | some x => exact (Q.so _ c x hk hc e).2
    rw [e]
    have ho2 := map_oin hA hM hC (trn_oin hA ho hc)
    cases e2 : mst (trn A) o c with
    | none => exact ⟨fun _ => rfl, fun _ => rfl⟩
    | some x =>
      rw [e2] at ho2
      have : g x < n := ho2
      exact ⟨fun z => absurd z (nI_nm1 (by omega)), fun z => by cases z⟩
  refine q_goesOn Q.le (fun ⟨c, hc, hne⟩ => h1 (fun q => hne ((key c hc).mpr (q c hc)))) (fun hall => h0 (fun c hc => (key c hc).mp (hall c hc)))
theorem q_isCutDue {A : Auto} (hA : A.Ok) {g s : Nat → Nat} {n : Nat} {fa fw : Nat → Int32} (hM : Mini A g n s) (hC : Mach A g n s fa fw) {en : Int32} {p : Nat} (hp : p ≤ 48) {lt : Nat → Nat} (hlt : ∀ j, j < p → lt j < 6) {pe : Nat → Int32} (hpe : ∀ j, j < p → pe j = nI (lt j)) {post : Int32 → Int32 → Int32 → Int32 → Int32 → Prop}
    (h1 : ∀ L, Due A (¬ en = 0) p lt L → post 1 (nI L) (oc ((ru A lt L).map g)) (nI (lw A lt L)) (lr A lt L))
    (h0 : NoDue A (¬ en = 0) p lt → post 0 (nI p) (oc ((ru A lt p).map g)) (nI (lw A lt p)) (lr A lt p)) {l : Nat} (hl : l ≤ p) (hno : ∀ l', 1 ≤ l' → l' ≤ l → ¬ over A lt l') :
    p_Stream_isCutDue en (nI p) (nI l) (oc ((ru A lt l).map g)) (nI (lw A lt l)) (lr A lt l) pe n fw (6 * n) fa post := by
  have key : ∀ (d l : Nat), l + d = p → (∀ l', 1 ≤ l' → l' ≤ l → ¬ over A lt l') → ∃ k, p_Stream_isCutDue_5 en (nI p) pe n fw (6 * n) fa post k (nI l) (nI l) (oc ((ru A lt l).map g)) (nI (lw A lt l)) (lr A lt l) := by
    intro d
    induction d with
    | zero =>
      intro l hl hno
      have e : l = p := by omega
      subst e
      refine ⟨1, fun _ => ⟨fun z => ?_, fun z => ⟨fun y => ?_, fun y => ⟨fun x => ?_, fun x => ?_⟩⟩⟩, fun z => absurd (nI_le (Nat.le_refl _) (by omega)) z⟩
      · have e48 : l = 48 := (nI_eq (b := 48) (by omega) (by omega)).mp z
        exact h1 l ⟨by omega, Nat.le_refl _, fun l' a b => hno l' a (by omega), Or.inr ⟨rfl, Or.inl e48⟩⟩
      · exact h0 ⟨hno, fun q => z (by rw [q]; rfl), fun q => q.1 y⟩
      · have : l = 0 := by
          rcases Nat.eq_zero_or_pos l with q | q
          · exact q
          · exact absurd x (nI_nle q (by omega))
        exact h0 ⟨hno, fun q => z (by rw [q]; rfl), fun q => by omega⟩
      · have : 0 < l := by
          rcases Nat.eq_zero_or_pos l with q | q
          · subst q; exact absurd (by decide) x
          · exact q
        exact h1 l ⟨by omega, Nat.le_refl _, fun l' a b => hno l' a (by omega), Or.inr ⟨rfl, Or.inr y⟩⟩
    | succ d ih =>
      intro l hl hno
      have ho := ru_oin hA l (fun j hj => hlt j (by omega))
      have hcl := hlt l (by omega)
      have hwv : wv A lt (l + 1) = wO A (mst (trn A) (ru A lt l) (lt l)) := rfl
      by_cases hov : over A lt (l + 1)
      · refine ⟨1, fun z => absurd z (nI_ge (by omega) (by omega)), fun _ => ⟨vp_in_nI (by omega) (by omega), ?_⟩⟩
        rw [nI_clamp (n := l) (by omega), hpe l (by omega), nI_1]
        have hD : Due A (¬ en = 0) p lt (l + 1) := ⟨by omega, by omega, fun l' a b => hno l' a (by omega), Or.inl hov⟩
        refine q_lookO hA hM hC ho hcl (q_winO hA hM hC (trn_oin hA ho hcl) ?_)
        rw [← hwv]
        have hp1 := h1 _ hD
        have ho2 := trn_oin hA ho hcl
        refine ⟨fun z => ?_, fun z => ?_⟩
        · have e1 : lw A lt (l + 1) = lw A lt l := by conv => lhs; unfold lw
                                                      rw [if_pos z]
          have e2 : lr A lt (l + 1) = lr A lt l := by conv => lhs; unfold lr
                                                      rw [if_pos z]
          rw [e1, e2] at hp1
          rw [nI_1]
          exact q_goesO hA hM hC ho2 (fun q => absurd hov q) (fun _ => ⟨fun q => absurd rfl q, fun _ => hp1⟩)
        · have e1 : lw A lt (l + 1) = l + 1 := by conv => lhs; unfold lw
                                                  rw [if_neg z]
          have e2 : lr A lt (l + 1) = wv A lt (l + 1) := by conv => lhs; unfold lr
                                                            rw [if_neg z]
          rw [e1, e2] at hp1
          rw [nI_1]
          exact q_goesO hA hM hC ho2 (fun q => absurd hov q) (fun _ => ⟨fun q => absurd rfl q, fun _ => hp1⟩)
      · obtain ⟨k, hk⟩ := ih (l + 1) (by omega) (fun l' a b => by
          by_cases q : l' = l + 1
          · rw [q]; exact hov
          · exact hno l' a (by omega))
        refine ⟨k + 1, fun z => absurd z (nI_ge (by omega) (by omega)), fun _ => ⟨vp_in_nI (by omega) (by omega), ?_⟩⟩
        rw [nI_clamp (n := l) (by omega), hpe l (by omega), nI_1]
        refine q_lookO hA hM hC ho hcl (q_winO hA hM hC (trn_oin hA ho hcl) ?_)
        rw [← hwv]
        have ho2 := trn_oin hA ho hcl
        refine ⟨fun z => ?_, fun z => ?_⟩
        · have e1 : lw A lt (l + 1) = lw A lt l := by conv => lhs; unfold lw
                                                      rw [if_pos z]
          have e2 : lr A lt (l + 1) = lr A lt l := by conv => lhs; unfold lr
                                                      rw [if_pos z]
          rw [e1, e2] at hk
          rw [nI_1]
          exact q_goesO hA hM hC ho2 (fun _ => ⟨fun _ => hk, fun q => absurd q (by decide)⟩) (fun q => absurd q hov)
        · have e1 : lw A lt (l + 1) = l + 1 := by conv => lhs; unfold lw
                                                  rw [if_neg z]
          have e2 : lr A lt (l + 1) = wv A lt (l + 1) := by conv => lhs; unfold lr
                                                            rw [if_neg z]
          rw [e1, e2] at hk
          rw [nI_1]
          exact q_goesO hA hM hC ho2 (fun _ => ⟨fun _ => hk, fun q => absurd q (by decide)⟩) (fun q => absurd q hov)
  obtain ⟨k, hk⟩ := key (p - l) l (by omega) hno
  exact ⟨k, hk⟩
/-- tokens in the program's ring -/
def CTk (t : Nat) (tk : Nat → Int32 × Int32 × Int32 × Int32) (o : Nat) (fc : Nat → Int32) : Prop := o < 72 ∧ ∀ i, i < t → fc ((o + i) % 72 * 4) = (tk i).1 ∧ fc ((o + i) % 72 * 4 + 1) = (tk i).2.1 ∧ fc ((o + i) % 72 * 4 + 2) = (tk i).2.2.1 ∧ fc ((o + i) % 72 * 4 + 3) = (tk i).2.2.2
theorem q_tokAdd {t o : Nat} {tk : Nat → Int32 × Int32 × Int32 × Int32} {fc : Nat → Int32} (h : CTk t tk o fc) (ht : t < 72) {x1 x2 x3 x4 : Int32} {post : Int32 → (Nat → Int32) → Prop} (hp : ∀ fc', CTk (t + 1) (fun i => if i = t then (x1, x2, x3, x4) else tk i) o fc' → post (nI (t + 1)) fc') : p_TokenQueue_add (nI o) (nI t) fc x1 x2 x3 x4 post := by
  obtain ⟨ho, h⟩ := h
  have em : nI o + nI t - (nI o + nI t) / 72 * 72 = nI ((o + t) % 72) := by
    rw [nI_add]; exact pk_rem (d := 72) (by omega) (by omega) (by omega)
  have ei : ∀ f : Nat, f < 4 → nI ((o + t) % 72) * 4 + nI f = nI ((o + t) % 72 * 4 + f) := fun f _ => by
    rw [show (4 : Int32) = nI 4 from rfl, pk_mul, nI_add]
  have e0 := ei 0 (by omega)
  have e1 := ei 1 (by omega)
  have e2 := ei 2 (by omega)
  have e3 := ei 3 (by omega)
  refine ⟨fun _ => ?_, fun z => absurd (nI_lt (b := 72) ht (by omega)) z⟩
  rw [em, show (0 : Int32) = nI 0 from rfl, show (1 : Int32) = nI 1 from rfl, show (2 : Int32) = nI 2 from rfl, show (3 : Int32) = nI 3 from rfl, e0, e1, e2, e3]
  have hm : (o + t) % 72 < 72 := Nat.mod_lt _ (by omega)
  refine ⟨vp_in_nI (by omega) (by omega), vp_in_nI (by omega) (by omega), vp_in_nI (by omega) (by omega), vp_in_nI (by omega) (by omega), ?_⟩
  rw [nI_add, nI_clamp (n := (o + t) % 72 * 4 + 0) (by omega), nI_clamp (n := (o + t) % 72 * 4 + 1) (by omega), nI_clamp (n := (o + t) % 72 * 4 + 2) (by omega), nI_clamp (n := (o + t) % 72 * 4 + 3) (by omega)]
  refine hp _ ⟨ho, fun i hi => ?_⟩
  by_cases e : i = t
  · subst e
    dsimp only
    rw [if_pos rfl]
    refine ⟨?_, ?_, ?_, ?_⟩
    · rw [pk_un (by omega), pk_un (by omega), pk_un (by omega)]; exact pk_us
    · rw [pk_un (by omega), pk_un (by omega), pk_us]
    · rw [pk_un (by omega), pk_us]
    · rw [pk_us]
  · dsimp only
    rw [if_neg e]
    have hne : (o + i) % 72 ≠ (o + t) % 72 := by omega
    obtain ⟨a1, a2, a3, a4⟩ := h i (by omega)
    refine ⟨?_, ?_, ?_, ?_⟩
    · rw [pk_un (by omega), pk_un (by omega), pk_un (by omega), pk_un (by omega)]; exact a1
    · rw [pk_un (by omega), pk_un (by omega), pk_un (by omega), pk_un (by omega)]; exact a2
    · rw [pk_un (by omega), pk_un (by omega), pk_un (by omega), pk_un (by omega)]; exact a3
    · rw [pk_un (by omega), pk_un (by omega), pk_un (by omega), pk_un (by omega)]; exact a4
theorem q_act {a M k : Nat} {kp : Nat → Nat} (ha : a ≤ 4) (hk : k ≤ 5) {ke : Nat → Int32} (hke : ∀ j, j < k → ke j = nI (kp j)) {post : Int32 → Int32 → (Nat → Int32) → Prop}
    (hp : ∀ ke', (∀ j, j < (actF a M k kp).2.1 → ke' j = nI ((actF a M k kp).2.2 j)) → post (nI (actF a M k kp).1) (nI (actF a M k kp).2.1) ke') : p_Stream_act (nI M) (nI k) ke (nI a) post := by
  unfold actF at hp
  refine ⟨fun z4 => ⟨fun z0 => ?_, fun z0 => ?_⟩, fun z4 => ?_⟩
  · have a0 : a = 0 := (nI_eq (b := 0) (by omega) (by omega)).mp z0
    rw [if_pos a0] at hp
    exact hp ke hke
  · have a0 : a ≠ 0 := fun q => z0 (by rw [q]; rfl)
    have a4 : a ≠ 4 := fun q => z4 (by rw [q]; rfl)
    rw [if_neg a0, if_neg a4] at hp
    refine ⟨fun z => ?_, fun z => ?_⟩
    · have : 5 ≤ k := by
        rcases Nat.lt_or_ge k 5 with y | y
        · exact absurd z (nI_ge (b := 5) y (by omega))
        · exact y
      rw [if_pos this] at hp
      exact hp ke hke
    · have hk5 : k < 5 := by
        rcases Nat.lt_or_ge k 5 with y | y
        · exact y
        · exact absurd (nI_le (a := 5) y (by omega)) z
      rw [if_neg (by omega)] at hp
      rw [nI_1, nI_clamp (n := k) (by omega), show nI a - 1 = nI (a - 1) by rw [show a = a - 1 + 1 by omega, nI_pred]; simp]
      refine ⟨vp_in_nI hk5 (by omega), hp _ (fun j hj => ?_)⟩
      have hj : j < k + 1 := hj
      show upd ke k (nI M) j = nI (updN kp k M j)
      by_cases e : j = k
      · subst e; rw [pk_us, updN_s]
      · rw [pk_un e, updN_n e]; exact hke j (by omega)
  · have a4 : a = 4 := (nI_eq (b := 4) (by omega) (by omega)).mp z4
    rw [if_neg (by omega), if_pos a4] at hp
    refine ⟨fun z => ?_, fun z => ?_⟩
    · have : k = 0 := by
        rcases Nat.eq_zero_or_pos k with y | y
        · exact y
        · exact absurd z (nI_nle y (by omega))
      rw [if_pos this] at hp
      exact hp ke hke
    · have hk0 : 0 < k := by
        rcases Nat.eq_zero_or_pos k with y | y
        · subst y; exact absurd (by decide) z
        · exact y
      rw [if_neg (by omega)] at hp
      have e1 : nI k - 1 = nI (k - 1) := by rw [show k = k - 1 + 1 by omega, nI_pred]; simp
      rw [e1, nI_clamp (n := k - 1) (by omega), hke (k - 1) (by omega)]
      exact ⟨vp_in_nI (by omega) (by omega), hp ke (fun j hj => hke j (by have : j < k - 1 := hj; omega))⟩
/-- the program's stream holds S; it has looked at l letters -/
def CSt (Am : Nat → Auto) (Gm : Nat → Nat → Nat) (S : SS) (l : Nat) (mo kc pc lo stt mt mr : Int32) (pe : Nat → Int32) (sz : Int32) (fc ke : Nat → Int32) (o : Nat) : Prop :=
  (S.Ok) ∧
  (mo = nI S.M) ∧
  (kc = nI S.k) ∧
  (pc = nI S.p) ∧
  (lo = nI l) ∧
  (stt = oc ((ru (Am S.M) S.lt l).map (Gm S.M))) ∧
  (mt = nI (lw (Am S.M) S.lt l)) ∧
  (mr = lr (Am S.M) S.lt l) ∧
  (l ≤ S.p) ∧
  (∀ l', 1 ≤ l' → l' ≤ l → ¬ over (Am S.M) S.lt l') ∧
  (∀ j, j < S.p → pe j = nI (S.lt j)) ∧
  (sz = nI S.t) ∧
  (CTk S.t S.tk o fc) ∧
  (∀ j, j < S.k → ke j = nI (S.kp j))
theorem CSt.ok {Am : Nat → Auto} {Gm : Nat → Nat → Nat} {S : SS} {l : Nat} {mo kc pc lo stt mt mr : Int32} {pe : Nat → Int32} {sz : Int32} {fc ke : Nat → Int32} {o : Nat} (h_ : CSt Am Gm S l mo kc pc lo stt mt mr pe sz fc ke o) : S.Ok := h_.1
theorem CSt.mo {Am : Nat → Auto} {Gm : Nat → Nat → Nat} {S : SS} {l : Nat} {mo kc pc lo stt mt mr : Int32} {pe : Nat → Int32} {sz : Int32} {fc ke : Nat → Int32} {o : Nat} (h_ : CSt Am Gm S l mo kc pc lo stt mt mr pe sz fc ke o) : mo = nI S.M := h_.2.1
theorem CSt.kc {Am : Nat → Auto} {Gm : Nat → Nat → Nat} {S : SS} {l : Nat} {mo kc pc lo stt mt mr : Int32} {pe : Nat → Int32} {sz : Int32} {fc ke : Nat → Int32} {o : Nat} (h_ : CSt Am Gm S l mo kc pc lo stt mt mr pe sz fc ke o) : kc = nI S.k := h_.2.2.1
theorem CSt.pc {Am : Nat → Auto} {Gm : Nat → Nat → Nat} {S : SS} {l : Nat} {mo kc pc lo stt mt mr : Int32} {pe : Nat → Int32} {sz : Int32} {fc ke : Nat → Int32} {o : Nat} (h_ : CSt Am Gm S l mo kc pc lo stt mt mr pe sz fc ke o) : pc = nI S.p := h_.2.2.2.1
theorem CSt.lo {Am : Nat → Auto} {Gm : Nat → Nat → Nat} {S : SS} {l : Nat} {mo kc pc lo stt mt mr : Int32} {pe : Nat → Int32} {sz : Int32} {fc ke : Nat → Int32} {o : Nat} (h_ : CSt Am Gm S l mo kc pc lo stt mt mr pe sz fc ke o) : lo = nI l := h_.2.2.2.2.1
theorem CSt.stt {Am : Nat → Auto} {Gm : Nat → Nat → Nat} {S : SS} {l : Nat} {mo kc pc lo stt mt mr : Int32} {pe : Nat → Int32} {sz : Int32} {fc ke : Nat → Int32} {o : Nat} (h_ : CSt Am Gm S l mo kc pc lo stt mt mr pe sz fc ke o) : stt = oc ((ru (Am S.M) S.lt l).map (Gm S.M)) := h_.2.2.2.2.2.1
theorem CSt.mt {Am : Nat → Auto} {Gm : Nat → Nat → Nat} {S : SS} {l : Nat} {mo kc pc lo stt mt mr : Int32} {pe : Nat → Int32} {sz : Int32} {fc ke : Nat → Int32} {o : Nat} (h_ : CSt Am Gm S l mo kc pc lo stt mt mr pe sz fc ke o) : mt = nI (lw (Am S.M) S.lt l) := h_.2.2.2.2.2.2.1
theorem CSt.mr {Am : Nat → Auto} {Gm : Nat → Nat → Nat} {S : SS} {l : Nat} {mo kc pc lo stt mt mr : Int32} {pe : Nat → Int32} {sz : Int32} {fc ke : Nat → Int32} {o : Nat} (h_ : CSt Am Gm S l mo kc pc lo stt mt mr pe sz fc ke o) : mr = lr (Am S.M) S.lt l := h_.2.2.2.2.2.2.2.1
theorem CSt.lp {Am : Nat → Auto} {Gm : Nat → Nat → Nat} {S : SS} {l : Nat} {mo kc pc lo stt mt mr : Int32} {pe : Nat → Int32} {sz : Int32} {fc ke : Nat → Int32} {o : Nat} (h_ : CSt Am Gm S l mo kc pc lo stt mt mr pe sz fc ke o) : l ≤ S.p := h_.2.2.2.2.2.2.2.2.1
theorem CSt.no {Am : Nat → Auto} {Gm : Nat → Nat → Nat} {S : SS} {l : Nat} {mo kc pc lo stt mt mr : Int32} {pe : Nat → Int32} {sz : Int32} {fc ke : Nat → Int32} {o : Nat} (h_ : CSt Am Gm S l mo kc pc lo stt mt mr pe sz fc ke o) : ∀ l', 1 ≤ l' → l' ≤ l → ¬ over (Am S.M) S.lt l' := h_.2.2.2.2.2.2.2.2.2.1
theorem CSt.pe {Am : Nat → Auto} {Gm : Nat → Nat → Nat} {S : SS} {l : Nat} {mo kc pc lo stt mt mr : Int32} {pe : Nat → Int32} {sz : Int32} {fc ke : Nat → Int32} {o : Nat} (h_ : CSt Am Gm S l mo kc pc lo stt mt mr pe sz fc ke o) : ∀ j, j < S.p → pe j = nI (S.lt j) := h_.2.2.2.2.2.2.2.2.2.2.1
theorem CSt.sz {Am : Nat → Auto} {Gm : Nat → Nat → Nat} {S : SS} {l : Nat} {mo kc pc lo stt mt mr : Int32} {pe : Nat → Int32} {sz : Int32} {fc ke : Nat → Int32} {o : Nat} (h_ : CSt Am Gm S l mo kc pc lo stt mt mr pe sz fc ke o) : sz = nI S.t := h_.2.2.2.2.2.2.2.2.2.2.2.1
theorem CSt.tk {Am : Nat → Auto} {Gm : Nat → Nat → Nat} {S : SS} {l : Nat} {mo kc pc lo stt mt mr : Int32} {pe : Nat → Int32} {sz : Int32} {fc ke : Nat → Int32} {o : Nat} (h_ : CSt Am Gm S l mo kc pc lo stt mt mr pe sz fc ke o) : CTk S.t S.tk o fc := h_.2.2.2.2.2.2.2.2.2.2.2.2.1
theorem CSt.ke {Am : Nat → Auto} {Gm : Nat → Nat → Nat} {S : SS} {l : Nat} {mo kc pc lo stt mt mr : Int32} {pe : Nat → Int32} {sz : Int32} {fc ke : Nat → Int32} {o : Nat} (h_ : CSt Am Gm S l mo kc pc lo stt mt mr pe sz fc ke o) : ∀ j, j < S.k → ke j = nI (S.kp j) := h_.2.2.2.2.2.2.2.2.2.2.2.2.2

theorem q_cut {Am : Nat → Auto} {Gm : Nat → Nat → Nat} (hAm : ∀ M, M < 3 → (Am M).Ok) (hG0 : ∀ M, M < 3 → Gm M 0 = 0) {ac : Nat → Nat} (hac : ∀ r, ac r ≤ 4) {acf : Nat → Int32} (hacf : ∀ r, r < 16 → acf r = nI (ac r)) {S : SS} (hS : S.Ok) {en : Prop} {L : Nat} (hL : Due (Am S.M) en S.p S.lt L) {pe fc ke : Nat → Int32} {o : Nat} (hpe : ∀ j, j < S.p → pe j = nI (S.lt j)) (htk : CTk S.t S.tk o fc) (hke : ∀ j, j < S.k → ke j = nI (S.kp j))
    {post : Int32 → Int32 → Int32 → Int32 → Int32 → Int32 → Int32 → Int32 → (Nat → Int32) → (Nat → Int32) → (Nat → Int32) → Prop}
    (hp : ∀ mo kc pc lo stt mt mr sz fc' pe' ke', CSt Am Gm (cutF Am ac S L) 0 mo kc pc lo stt mt mr pe' sz fc' ke' o → post mo kc pc lo stt mt mr sz fc' pe' ke') :
    p_Stream_cut (nI S.M) (nI S.k) S.ca (nI S.p) (nI (lw (Am S.M) S.lt L)) (lr (Am S.M) S.lt L) (nI o) (nI S.t) fc pe acf ke post := by
  have hA := hAm _ hS.M
  have hlw := @lw_le (Am S.M) S.lt L
  have hp48 := hS.p
  have htp := hS.tp
  obtain ⟨hok, hpl⟩ := cutF_ok (ac := ac) hac hS hL
  obtain ⟨l1, l2, -, -⟩ := hL
  have esz : (if nI (lw (Am S.M) S.lt L) < 1 then 1 else nI (lw (Am S.M) S.lt L)) = nI (max (lw (Am S.M) S.lt L) 1) := nI_mx (b := 1) (by omega) (by omega)
  have hm1 : 1 ≤ max (lw (Am S.M) S.lt L) 1 := Nat.le_max_right _ _
  have hm2 : max (lw (Am S.M) S.lt L) 1 ≤ S.p := Nat.max_le.mpr ⟨by omega, by omega⟩
  generalize hmx : max (lw (Am S.M) S.lt L) 1 = sz at *
  unfold p_Stream_cut
  rw [esz, pk_sub hm2]
  have c0 : (0 : Int32).toNatClampNeg = 0 := by decide
  rw [nI_clamp (n := sz) (by omega), nI_clamp (n := S.p - sz) (by omega), c0]
  refine q_tokAdd htk (by omega) (fun fc' htk' => ?_)
  refine ⟨nI_pos (by omega), by decide, nI_pos (by omega), by omega, by omega, ?_⟩
  have hpe' : ∀ j, j < S.p - sz → va_cpy pe pe sz 0 (S.p - sz) j = nI (S.lt (j + sz)) := fun j hj => by
    rw [pk_cpy_in (by omega) (by omega), Nat.sub_zero, hpe _ (by omega), Nat.add_comm]
  have hru : ∀ M', M' < 3 → oc ((ru (Am M') (fun j => S.lt (j + sz)) 0).map (Gm M')) = 0 := fun M' hM' => by
    show nI (Gm M' 0) = 0
    rw [hG0 M' hM']; rfl
  have hcut : cutF Am ac S L = SS.mk (actF (if lr (Am S.M) S.lt L = -1 then 0 else ac (lr (Am S.M) S.lt L).toNatClampNeg) S.M S.k S.kp).1 (actF (if lr (Am S.M) S.lt L = -1 then 0 else ac (lr (Am S.M) S.lt L).toNatClampNeg) S.M S.k S.kp).2.1 (actF (if lr (Am S.M) S.lt L = -1 then 0 else ac (lr (Am S.M) S.lt L).toNatClampNeg) S.M S.k S.kp).2.2 S.ca (S.p - sz) (fun j => S.lt (j + sz)) (S.t + 1) (fun i => if i = S.t then (lr (Am S.M) S.lt L, S.ca - nI S.p, nI sz, nI S.M) else S.tk i) := by
    rw [← hmx]; rfl
  rcases lr_in hA L (fun j hj => hS.lt j (by omega)) with ⟨er, -⟩ | ⟨r, hr, er, -⟩
  · refine ⟨fun _ => hp _ _ _ _ _ _ _ _ _ _ _ ?_, fun z => absurd er z⟩
    rw [hcut]
    rw [hcut] at hok
    have ea : (if lr (Am S.M) S.lt L = -1 then 0 else ac (lr (Am S.M) S.lt L).toNatClampNeg) = 0 := if_pos er
    rw [ea] at hok ⊢
    have e0 : actF 0 S.M S.k S.kp = (S.M, S.k, S.kp) := if_pos rfl
    rw [e0] at hok ⊢
    exact ⟨hok, rfl, rfl, rfl, rfl, (hru _ hS.M).symm, rfl, rfl, Nat.zero_le _, fun l' a b => by omega, hpe', rfl, htk', hke⟩
  · refine ⟨fun z => absurd (er ▸ z) (nI_nm1 (by omega)), fun z => ?_⟩
    rw [er]
    refine ⟨vp_in_nI hr (by omega), ?_⟩
    rw [nI_clamp (n := r) (by omega), hacf r hr]
    refine q_act (hac r) hS.k hke (fun ke' hke' => hp _ _ _ _ _ _ _ _ _ _ _ ?_)
    rw [hcut]
    rw [hcut] at hok
    have ea : (if lr (Am S.M) S.lt L = -1 then 0 else ac (lr (Am S.M) S.lt L).toNatClampNeg) = ac r := by
      rw [er, if_neg (nI_nm1 (by omega)), nI_clamp (by omega)]
    rw [ea] at hok ⊢
    rw [er] at htk' hok ⊢
    exact ⟨hok, rfl, rfl, rfl, rfl, (hru _ hok.M).symm, rfl, rfl, Nat.zero_le _, fun l' a b => by omega, hpe', rfl, htk', hke'⟩
