/-! Two machines: the first word that tells them apart -/
def tellq (tra : Nat → Nat → Option Nat) (wa : Nat → Prop) (trb : Nat → Nat → Option Nat) (wb : Nat → Prop) (p q : Option Nat) (v : List Nat) : Prop := ¬ (mw wa (mrun tra p v) ↔ mw wb (mrun trb q v))
theorem mrun_app {tr : Nat → Nat → Option Nat} {o : Option Nat} {u v : List Nat} : mrun tr o (u ++ v) = mrun tr (mrun tr o u) v := by
  unfold mrun; rw [List.foldl_append]
theorem mrun_snoc {tr : Nat → Nat → Option Nat} {o : Option Nat} {u : List Nat} {c : Nat} : mrun tr o (u ++ [c]) = mst tr (mrun tr o u) c := by
  rw [mrun_app]; rfl
theorem QM.oins {n : Nat} {fa fw : Nat → Int32} {tr : Nat → Nat → Option Nat} {w : Nat → Prop} (Q : QM n fa fw tr w) {o : Option Nat} (ho : oin n o) {c : Nat} (hc : c < 6) : oin n (mst tr o c) := by
  cases o with
  | none => exact trivial
  | some h =>
    show oin n (tr h c)
    cases e : tr h c with
    | none => exact trivial
    | some h' => exact (Q.so h c h' ho hc e).1
theorem QM.oinr {n : Nat} {fa fw : Nat → Int32} {tr : Nat → Nat → Option Nat} {w : Nat → Prop} (Q : QM n fa fw tr w) : ∀ (v : List Nat) (o : Option Nat), oin n o → W6 v → oin n (mrun tr o v) := by
  intro v
  induction v with
  | nil => intro o h _; exact h
  | cons c v ih =>
    intro o h hv
    exact ih _ (Q.oins h (hv c (List.mem_cons_self))) (fun d hd => hv d (List.mem_cons_of_mem _ hd))
theorem q_aftO {n : Nat} {fa fw : Nat → Int32} {tr : Nat → Nat → Option Nat} {w : Nat → Prop} (Q : QM n fa fw tr w) {o : Option Nat} (ho : oin n o) {c : Nat} (hc : c < 6) {post : Int32 → Prop} (h : post (oc (mst tr o c))) : p_Machine_after n (6 * n) fa (oc o) (nI c) post := by
  cases o with
  | none =>
    refine q_after Q.le ?_
    rw [show mAft n fa (oc none) (nI c) = -1 from if_neg (fun q => q.1 (by decide))]
    exact h
  | some s =>
    refine q_step Q ho hc (fun e => ?_) (fun x e _ => ?_)
    · have : mst tr (some s) c = none := e
      rw [this] at h; exact h
    · have : mst tr (some s) c = some x := e
      rw [this] at h; exact h
theorem q_hasWO {n : Nat} {fa fw : Nat → Int32} {tr : Nat → Nat → Option Nat} {w : Nat → Prop} (Q : QM n fa fw tr w) {o : Option Nat} (ho : oin n o) {post : Int32 → Prop} (h0 : ¬ mw w o → post 0) (h1 : mw w o → post 1) : p_Machine_hasWinner n fw (oc o) post := by
  cases o with
  | none =>
    refine q_hasWinner Q.le ?_
    rw [show mWin n fw (oc none) = -1 from if_neg (fun q => q.1 (by decide)), if_pos rfl]
    exact h0 id
  | some s => exact q_hasW Q ho h0 h1
/-- pairs so far, each with its word -/
def CQ (P : Nat) (u : Nat → List Nat) (be lt : Nat → Int32) : Prop :=
  (u 0 = []) ∧
  (∀ i, i < P → W6 (u i)) ∧
  (∀ i, 0 < i → i < P → ∃ b c, b < i ∧ c < 6 ∧ be i = nI b ∧ lt i = nI c ∧ u i = u b ++ [c])
theorem CQ.u0 {P : Nat} {u : Nat → List Nat} {be lt : Nat → Int32} (h_ : CQ P u be lt) : u 0 = [] := h_.1
theorem CQ.w6 {P : Nat} {u : Nat → List Nat} {be lt : Nat → Int32} (h_ : CQ P u be lt) : ∀ i, i < P → W6 (u i) := h_.2.1
theorem CQ.tr {P : Nat} {u : Nat → List Nat} {be lt : Nat → Int32} (h_ : CQ P u be lt) : ∀ i, 0 < i → i < P → ∃ b c, b < i ∧ c < 6 ∧ be i = nI b ∧ lt i = nI c ∧ u i = u b ++ [c] := h_.2.2

theorem W6.snoc {u : List Nat} (h : W6 u) {c : Nat} (hc : c < 6) : W6 (u ++ [c]) := fun d hd => (List.mem_append.mp hd).elim (h d) (fun m => by rw [List.mem_singleton] at m; omega)
theorem CQ.len {P : Nat} {u : Nat → List Nat} {be lt : Nat → Int32} (h : CQ P u be lt) : ∀ i, i < P → (u i).length ≤ i := by
  intro i
  induction i using Nat.strongRecOn with
  | ind i ih =>
    intro hi
    rcases Nat.eq_zero_or_pos i with z | z
    · subst z; rw [h.u0]; exact Nat.le_refl _
    · obtain ⟨b, c, hb, -, -, -, e⟩ := h.tr i z hi
      have := ih b hb (by omega)
      rw [e, List.length_append]
      simp; omega
theorem CQ.add {P : Nat} {u : Nat → List Nat} {be lt : Nat → Int32} (h : CQ P u be lt) {j c : Nat} (hj : j < P) (hc : c < 6) : CQ (P + 1) (fun i => if i = P then u j ++ [c] else u i) (upd be P (nI j)) (upd lt P (nI c)) := by
  refine ⟨?_, fun i hi => ?_, fun i h0 hi => ?_⟩
  · try dsimp only
    rw [if_neg (by omega)]; exact h.u0
  · try dsimp only
    by_cases e : i = P
    · rw [if_pos e]; exact (h.w6 j hj).snoc hc
    · rw [if_neg e]; exact h.w6 i (by omega)
  · by_cases e : i = P
    · subst e
      refine ⟨j, c, hj, hc, pk_us, pk_us, ?_⟩
      try dsimp only
      rw [if_pos rfl, if_neg (by omega)]
    · obtain ⟨b, c', hb, hc', e1, e2, e3⟩ := h.tr i h0 (by omega)
      exact ⟨b, c', hb, hc', by rw [pk_un e]; exact e1, by rw [pk_un e]; exact e2, by (try dsimp only); rw [if_neg e, if_neg (by omega)]; exact e3⟩
theorem q_lengthOfLast {P : Nat} {u : Nat → List Nat} {be lt : Nat → Int32} (h : CQ P u be lt) (hP : 0 < P) (hP2 : P ≤ 1027) {post : Int32 → Prop} (hp : post (nI (u (P - 1)).length)) : p_Comparison_lengthOfLast (nI P) be post := by
  have key : ∀ (i st : Nat), i < P → (u i).length + st = (u (P - 1)).length → ∃ k, p_Comparison_lengthOfLast_9 be post k (nI st) (nI i) := by
    intro i
    induction i using Nat.strongRecOn with
    | ind i ih =>
      intro st hi hs
      have hl := h.len (P - 1) (by omega)
      rcases Nat.eq_zero_or_pos i with z | z
      · subst z
        rw [h.u0] at hs
        refine ⟨1, fun _ => ?_, fun y => absurd (by decide) y⟩
        rw [← hs, List.length_nil, Nat.zero_add] at hp
        exact hp
      · obtain ⟨b, c, hb, -, e1, -, e⟩ := h.tr i z hi
        rw [e, List.length_append] at hs
        simp at hs
        obtain ⟨k, hk⟩ := ih b hb (st + 1) (by omega) (by omega)
        refine ⟨k + 1, fun y => absurd y (nI_nle z (by omega)), fun _ => ⟨fun y => absurd y (nI_ge (b := 1027) (by omega) (by omega)), fun _ => ⟨vp_in_nI (by omega) (by omega), ?_⟩⟩⟩
        rw [nI_clamp (n := i) (by omega), e1, nI_1]
        exact hk
  obtain ⟨k, hk⟩ := key (P - 1) 0 (by omega) (by omega)
  refine ⟨k, ?_⟩
  rw [show nI P - 1 = nI (P - 1) by rw [show P = P - 1 + 1 by omega, nI_pred]; simp]
  exact hk
theorem q_letterAt28 {P : Nat} {u : Nat → List Nat} {be lt : Nat → Int32} (h : CQ P u be lt) (hP2 : P ≤ 1027) {x : Nat} {W : List Nat} (hx : x < W.length) {post : Int32 → Prop} (hp : post (nI (W.getD x 0))) : ∀ (i st : Nat), i < P → x ≤ st → u i = W.take (st + 1) → st < W.length → ∃ k, p_Comparison_letterAt_28 be lt (nI x) post k (nI i) (nI st) := by
  intro i
  induction i using Nat.strongRecOn with
  | ind i ih =>
    intro st hi hxs hu hst
    have hl := h.len i hi
    have hlen : (u i).length = st + 1 := by rw [hu, List.length_take]; omega
    have hi0 : 0 < i := by
      rcases Nat.eq_zero_or_pos i with z | z
      · subst z; rw [h.u0] at hlen; simp at hlen
      · exact z
    obtain ⟨b, c, hb, hc, e1, e2, e⟩ := h.tr i hi0 hi
    have hsplit : u b = W.take st ∧ c = W.getD st 0 := by
      have h1 : W.take (st + 1) = W.take st ++ [W[st]] := by rw [List.take_succ_eq_append_getElem hst]
      rw [hu, h1] at e
      have := List.append_inj' e rfl
      refine ⟨this.1.symm, ?_⟩
      have h2 := List.head_eq_of_cons_eq this.2
      rw [List.getD_eq_getElem?_getD, List.getElem?_eq_getElem hst]
      exact h2.symm
    by_cases q : st = x
    · subst q
      refine ⟨1, fun _ => ⟨vp_in_nI (by omega) (by omega), ?_⟩, fun z => absurd (nI_le (Nat.le_refl _) (by omega)) z⟩
      rw [nI_clamp (n := i) (by omega), e2, hsplit.2]
      exact hp
    · obtain ⟨k, hk⟩ := ih b hb (st - 1) (by omega) (by omega) (by rw [hsplit.1, show st - 1 + 1 = st by omega]) (by omega)
      refine ⟨k + 1, fun z => absurd z (nI_ge (by omega) (by omega)), fun _ => ⟨vp_in_nI (by omega) (by omega), ?_⟩⟩
      rw [nI_clamp (n := i) (by omega), e1, show nI st + (-1) = nI (st - 1) by rw [show st = st - 1 + 1 by omega, pk_m1]; simp]
      exact hk
/-- what a comparison leaves -/
def CR (tra : Nat → Nat → Option Nat) (wa : Nat → Prop) (trb : Nat → Nat → Option Nat) (wb : Nat → Prop) (pairs len : Int32) (be lt : Nat → Int32) : Prop := ∃ P u, 0 < P ∧ P ≤ 1027 ∧ pairs = nI P ∧ CQ P u be lt ∧ ((len = -1 ∧ ∀ w, W6 w → ¬ tellq tra wa trb wb (some 0) (some 0) w) ∨ (len = nI (u (P - 1)).length ∧ tellq tra wa trb wb (some 0) (some 0) (u (P - 1)) ∧ ∀ w, W6 w → tellq tra wa trb wb (some 0) (some 0) w → cd (u (P - 1)) ≤ cd w))
theorem q_letterAt {tra trb : Nat → Nat → Option Nat} {wa wb : Nat → Prop} {pairs len : Int32} {be lt : Nat → Int32} (h : CR tra wa trb wb pairs len be lt) {x : Int32} {post : Int32 → Prop}
    (h0 : (∀ w, W6 w → ¬ tellq tra wa trb wb (some 0) (some 0) w) → post (-1))
    (h1 : ∀ W, W6 W → tellq tra wa trb wb (some 0) (some 0) W → (∀ w, W6 w → tellq tra wa trb wb (some 0) (some 0) w → cd W ≤ cd w) → W.length < 2000 → ((x < 0 ∨ nI W.length ≤ x) → post (-1)) ∧ ∀ i, i < W.length → x = nI i → post (nI (W.getD i 0))) : p_Comparison_letterAt pairs len be lt x post := by
  obtain ⟨P, u, hP, hP2, rfl, hQ, hr⟩ := h
  have hl := hQ.len (P - 1) (by omega)
  rcases hr with ⟨rfl, hn⟩ | ⟨rfl, ht, hm⟩
  · refine ⟨fun _ => h0 hn, fun a => ⟨fun b => ?_, fun _ => h0 hn⟩⟩
    exfalso
    obtain ⟨j, hj, rfl⟩ := nI_of a
    rw [Int32.lt_iff_toInt_lt, nI_toInt hj] at b
    have : (-1 : Int32).toInt = -1 := by decide
    omega
  · have hp := h1 _ (hQ.w6 (P - 1) (by omega)) ht hm (by omega)
    refine ⟨fun a => hp.1 (Or.inl a), fun a => ⟨fun b => ?_, fun b => hp.1 (Or.inr ?_)⟩⟩
    · obtain ⟨j, hj, rfl⟩ := nI_of a
      have hjl := (nI_ltI hj (by omega)).mp b
      obtain ⟨k, hk⟩ := q_letterAt28 hQ hP2 hjl (hp.2 j hjl rfl) (P - 1) ((u (P - 1)).length - 1) (by omega) (by omega) (by rw [show (u (P - 1)).length - 1 + 1 = (u (P - 1)).length by omega, List.take_length]) (by omega)
      refine ⟨k, ?_⟩
      rw [show nI P - 1 = nI (P - 1) by rw [show P = P - 1 + 1 by omega, nI_pred]; simp]
      rw [show nI (u (P - 1)).length - 1 = nI ((u (P - 1)).length - 1) by rw [show (u (P - 1)).length = (u (P - 1)).length - 1 + 1 by omega, nI_pred]; simp]
      exact hk
    · obtain ⟨j, hj, rfl⟩ := nI_of a
      rcases Nat.lt_or_ge j (u (P - 1)).length with z | z
      · exact absurd (nI_lt z (by omega)) b
      · exact nI_le z hj
/-- words below X have been looked at -/
theorem least {tra trb : Nat → Nat → Option Nat} {wa wb : Nat → Prop} {P : Nat} {u : Nat → List Nat} {be lt : Nat → Int32} (hQ : CQ P u be lt) (hP : 0 < P) (X : Nat → Prop) (hX : ∀ a b, a ≤ b → X b → X a)
    (hnt : ∀ i, i < P → ¬ tellq tra wa trb wb (some 0) (some 0) (u i))
    (hpr : ∀ i c, i < P → c < 6 → X (cd (u i ++ [c])) → (∃ k, k < P ∧ u k = u i ++ [c]) ∨ ∀ v, W6 v → tellq tra wa trb wb (some 0) (some 0) (u i ++ [c] ++ v) → ∃ k, k < P ∧ cd (u k) < cd (u i ++ [c]) ∧ tellq tra wa trb wb (some 0) (some 0) (u k ++ v)) :
    ∀ w, W6 w → X (cd w) → ¬ tellq tra wa trb wb (some 0) (some 0) w := by
  have main : ∀ (N : Nat) (w : List Nat), cd w = N → W6 w → X N → ¬ tellq tra wa trb wb (some 0) (some 0) w := by
    intro N
    induction N using Nat.strongRecOn with
    | ind N ih =>
      intro w hw h6 hXN ht
      -- the longest beginning that has a pair
      have split : ∀ (rest p : List Nat), W6 rest → (∃ i, i < P ∧ u i = p) → (∃ i, i < P ∧ u i = p ++ rest) ∨ ∃ i c r, i < P ∧ c < 6 ∧ W6 r ∧ u i ++ [c] ++ r = p ++ rest ∧ ¬ ∃ k, k < P ∧ u k = u i ++ [c] := by
        intro rest
        induction rest with
        | nil => intro p _ hp; left; rw [List.append_nil]; exact hp
        | cons c r ih2 =>
          rintro p hr ⟨i, hi, rfl⟩
          by_cases q : ∃ k, k < P ∧ u k = u i ++ [c]
          · have := ih2 (u i ++ [c]) (fun d hd => hr d (List.mem_cons_of_mem _ hd)) q
            rw [show u i ++ [c] ++ r = u i ++ c :: r by simp] at this
            exact this
          · right
            exact ⟨i, c, r, hi, hr c (List.mem_cons_self), fun d hd => hr d (List.mem_cons_of_mem _ hd), by simp, q⟩
      rcases split w [] h6 ⟨0, hP, hQ.u0⟩ with ⟨i, hi, e⟩ | ⟨i, c, r, hi, hc, hr, e, hno⟩
      · rw [List.nil_append] at e
        exact hnt i hi (by rw [e]; exact ht)
      · rw [List.nil_append] at e
        have hle : cd (u i ++ [c]) ≤ cd w := by rw [← e, cd_app (u i ++ [c]) r]; exact ext_ge r _
        rcases hpr i c hi hc (hX _ _ (by rw [← hw]; exact hle) hXN) with q | q
        · exact hno q
        · obtain ⟨k, hk, hlt, htk⟩ := q r hr (by rw [e]; exact ht)
          have hlt2 := cd_mono r hlt
          rw [e] at hlt2
          refine ih (cd (u k ++ r)) (by omega) (u k ++ r) rfl (fun d hd => (List.mem_append.mp hd).elim (hQ.w6 k hk d) (hr d)) (hX _ _ (by omega) hXN) htk
  exact fun w h6 hX2 => main (cd w) w rfl h6 hX2