/-! The reference's reader: readOne, parse -/
theorem q_readOne {tp : Nat → Nat} {t : Nat} {tape : Nat → Int32} {S : TS} {rd dp : Int32} {hp rl pf rb rf re pl pe cf cl ce rlt : Nat → Int32} (ht : t ≤ 24) (htp : ∀ i, i < t → tape i = nI (tp i) ∧ tp i < 256) {i : Nat} (hi : i < t) (hq : S.q ≤ i) (h : RTx S rd dp hp rl pf rb rf re pl pe cf cl ce rlt) {x : Int32} (hx : (x = 1 ∧ S.pt S.d = none) ∨ (x = 0 ∧ S.pt S.d ≠ none)) {post : _}
    (h0 : ∀ j, j ≤ t → rdT tp t (t - i) i S none = (j, none) → ∀ at' rd' dp' hp' rl' pf' rb' rf' re' pl' pe' cf' cl' ce' rlt', post at' rd' dp' (nI j) hp' rl' pf' rb' rf' re' pl' pe' cf' cl' ce' rlt')
    (h1 : ∀ j S', i < j → j ≤ t → rdT tp t (t - i) i S none = rdT tp t (t - j) j S' none → S'.q ≤ S.q + 1 → ∀ rd' dp' hp' rl' pf' rb' rf' re' pl' pe' cf' cl' ce' rlt', RTx S' rd' dp' hp' rl' pf' rb' rf' re' pl' pe' cf' cl' ce' rlt' → post (nI j) rd' dp' (-1) hp' rl' pf' rb' rf' re' pl' pe' cf' cl' ce' rlt') :
    p_M_readOne (nI t) (nI i) rd dp (-1) tape hp rl pf rb rf re pl pe cf cl ce rlt x post := by
  have hd := h.d4
  obtain ⟨et, hb⟩ := htp i hi
  have hno : stepN S (tp i) = none → rdT tp t (t - i) i S none = (i, none) := fun e => by
    rw [show t - i = t - (i + 1) + 1 by omega]; exact rd_no e
  have hso : ∀ S', stepN S (tp i) = some (S', none) → rdT tp t (t - i) i S none = rdT tp t (t - (i + 1)) (i + 1) S' none := fun S' e => by
    rw [show t - i = t - (i + 1) + 1 by omega]; exact rd_so e
  have hq1 : ∀ S' z', stepN S (tp i) = some (S', z') → S'.q ≤ S.q + 1 := fun S' z' e => (stepN_q e).1
  have ref : stepN S (tp i) = none → p_M_refuse (nI i) (-1) (fun u => post (nI i) rd dp u hp rl pf rb rf re pl pe cf cl ce rlt) := fun e => ⟨fun z => absurd rfl z, fun _ => h0 i (by omega) (hno e) _ _ _ _ _ _ _ _ _ _ _ _ _ _ _⟩
  have x0 : x = 0 → S.pt S.d ≠ none := fun e => hx.elim (fun q => by rw [q.1] at e; exact absurd e (by decide)) (fun q => q.2)
  have x1 : ¬ x = 0 → S.pt S.d = none := fun e => hx.elim (fun q => q.2) (fun q => absurd q.1 e)
  have c46 := nIc (k := 46) hb (by omega)
  have c91 := nIc (k := 91) hb (by omega)
  have c40 := nIc (k := 40) hb (by omega)
  have c42 := nIc (k := 42) hb (by omega)
  have c43 := nIc (k := 43) hb (by omega)
  have c63 := nIc (k := 63) hb (by omega)
  have c124 := nIc (k := 124) hb (by omega)
  have c41 := nIc (k := 41) hb (by omega)
  -- a place
  have hplace : ∀ b, stepN S (tp i) = some (placeT S b, none) → p_M_place rd dp rlt rb hp rl pf rf re pl pe b (fun u1 u2 u3 u4 u5 u6 u7 u8 u9 u10 => post (nI i + 1) u1 dp (-1) u4 u5 u6 u3 u7 u8 u9 u10 cf cl ce u2) := fun b e => by
    rw [nI_1]
    exact q_place h (by omega) (fun rd' rlt' rb' hp' rl' pf' rf' re' pl' pe' hR => h1 (i + 1) _ (by omega) (by omega) (hso _ e) (hq1 _ _ e) _ _ _ _ _ _ _ _ _ _ _ _ _ _ hR)
  -- not a letter, '.', '[' (nor '(' that may stand)
  have h234 : ¬ isL (tp i) → tp i ≠ 46 → tp i ≠ 91 → (tp i = 40 → ¬ S.d < 4) → tp i ≠ 124 ∨ S.pt S.d = none → (tp i ≠ 42 ∧ tp i ≠ 43 ∧ tp i ≠ 63) ∨ S.pt S.d = none → p_M_readOne_234 x post (nI (tp i)) (nI i) rd dp (-1) hp rl pf rb rf re pl pe cf cl ce rlt := fun nl n46 n91 n40 n124 nrep => by
    have hst : stepN S (tp i) = (if tp i = 41 then (if S.d = 0 ∨ S.pt S.d = none then none else some (closeT S, none)) else none) := by
      unfold stepN
      rw [if_neg n46, if_neg n91]
      by_cases e40 : tp i = 40
      · rw [if_pos e40, if_neg (n40 e40), if_neg (by omega)]
      · rw [if_neg e40]
        by_cases e41 : tp i = 41
        · rw [if_pos e41, if_pos e41]
        · rw [if_neg e41, if_neg e41]
          by_cases e124 : tp i = 124
          · rw [if_pos e124, if_pos (n124.elim (fun q => absurd e124 q) id)]
          · rw [if_neg e124]
            by_cases er : tp i = 42 ∨ tp i = 43 ∨ tp i = 63
            · rw [if_pos er, nrep.elim (fun q => absurd er (by omega)) id]
            · rw [if_neg er, if_neg (show ¬ (97 ≤ tp i ∧ tp i ≤ 102) from nl)]
    refine ⟨fun z => ref ?_, fun z => ⟨fun y => ref ?_, fun y => ⟨fun w => ref ?_, fun w => ?_⟩⟩⟩
    · rw [hst]
      split
      · rw [if_pos (Or.inr (x1 z))]
      · rfl
    · rw [hst, if_neg (fun q => y (c41.mpr q))]
    · rw [hst, if_pos (c41.mp y)]
      have : S.d = 0 := by
        rcases Nat.eq_zero_or_pos S.d with q | q
        · exact q
        · rw [h.dp] at w; exact absurd w (nI_nle q (by omega))
      rw [if_pos (Or.inl this)]
    · have hd0 : 0 < S.d := by
        rcases Nat.eq_zero_or_pos S.d with q | q
        · rw [h.dp, q] at w; exact absurd (by decide) w
        · exact q
      have e : stepN S (tp i) = some (closeT S, none) := by
        rw [hst, if_pos (c41.mp y), if_neg (fun q => q.elim (by omega) (x0 z))]
      refine q_closeG h (by omega) hd0 (fun hp' rl' pf' rb' rf' re' pl' pe' cf' cl' ce' hR => ?_)
      rw [nI_1]
      exact h1 (i + 1) _ (by omega) (by omega) (hso _ e) (hq1 _ _ e) _ _ _ _ _ _ _ _ _ _ _ _ _ _ hR
  have h203 : ¬ isL (tp i) → tp i ≠ 46 → tp i ≠ 91 → (tp i = 40 → ¬ S.d < 4) → (tp i ≠ 42 ∧ tp i ≠ 43 ∧ tp i ≠ 63) ∨ S.pt S.d = none → p_M_readOne_203 x post (nI (tp i)) (nI i) rd dp (-1) hp rl pf rb rf re pl pe cf cl ce rlt := fun nl n46 n91 n40 nrep => by
    refine ⟨fun z => h234 nl n46 n91 n40 (Or.inr (x1 z)) nrep, fun z => ⟨fun y => h234 nl n46 n91 n40 (Or.inl (fun q => y (c124.mpr q))) nrep, fun y => ?_⟩⟩
    have e124 := c124.mp y
    have e : stepN S (tp i) = some (endT S, none) := by
      unfold stepN
      rw [if_neg n46, if_neg n91, if_neg (by omega), if_neg (by omega), if_pos e124, if_neg (x0 z)]
    rw [nI_1]
    exact q_bar (post := fun v4 v2 u3 v1 v3 u6 u7 u8 => post (nI (i + 1)) rd dp (-1) v4 v2 pf u3 v1 v3 pl pe u6 u7 u8 rlt) h (by omega) (fun hp' rl' rb' rf' re' cf' cl' ce' hR => h1 (i + 1) _ (by omega) (by omega) (hso _ e) (hq1 _ _ e) _ _ _ _ _ _ _ _ _ _ _ _ _ _ hR)
  have h124 : ¬ isL (tp i) → tp i ≠ 46 → tp i ≠ 91 → (tp i = 40 → ¬ S.d < 4) → p_M_readOne_124 x post (nI (tp i)) (nI i) rd dp (-1) hp rl pf rb rf re pl pe cf cl ce rlt := fun nl n46 n91 n40 => by
    have hrep : ¬ S.pt S.d = none → (tp i = 42 ∨ tp i = 43 ∨ tp i = 63) → p_M_readOne_146 post (nI (tp i)) (nI i) rd dp (-1) hp rl pf rb rf re pl pe cf cl ce rlt := fun hn hc => by
      cases eP : S.pt S.d with
      | none => exact absurd eP hn
      | some P =>
        have e : stepN S (tp i) = some (repT S P (decide (tp i = 43)) (decide (tp i = 63)), none) := by
          unfold stepN
          rw [if_neg n46, if_neg n91, if_neg (by omega), if_neg (by omega), if_neg (by omega), if_pos hc, eP]
        refine q_repG h (by omega) eP hb (fun rb' pe' hR => ?_)
        rw [nI_1]
        exact h1 (i + 1) _ (by omega) (by omega) (hso _ e) (hq1 _ _ e) _ _ _ _ _ _ _ _ _ _ _ _ _ _ hR
    refine ⟨fun z => h203 nl n46 n91 n40 (Or.inr (x1 z)), fun z => ⟨fun y => hrep (x0 z) (Or.inl (c42.mp y)), fun y => ⟨fun w => hrep (x0 z) (Or.inr (Or.inl (c43.mp w))), fun w => ⟨fun v => h203 nl n46 n91 n40 (Or.inl ⟨fun q => y (c42.mpr q), fun q => w (c43.mpr q), fun q => v (c63.mpr q)⟩), fun v => hrep (x0 z) (Or.inr (Or.inr (c63.mp v)))⟩⟩⟩⟩
  refine q_here ht htp (by omega) (fun q => absurd q (by omega)) (fun _ => q_M_isL hb (fun (hl : 97 ≤ tp i ∧ tp i ≤ 102) => ⟨fun _ => ⟨fun y => ?_, fun y => absurd (c46.mp y) (by omega)⟩, fun z => absurd z (by decide)⟩) (fun nl => ⟨fun z => absurd rfl z, fun _ => ⟨fun n46 => ⟨fun n91 => ⟨fun n40 => h124 nl (fun q => n46 (c46.mpr q)) (fun q => n91 (c91.mpr q)) (fun q => absurd (c40.mpr q) n40), fun y40 => ⟨fun y4 => h124 nl (fun q => n46 (c46.mpr q)) (fun q => n91 (c91.mpr q)) (fun _ q => ?_), fun y4 => ?_⟩⟩, fun y91 => ?_⟩, fun y46 => ⟨fun z => absurd y46 z, fun _ => ?_⟩⟩⟩))
  · rw [(chr97 hb).1 hl.1]
    refine hplace _ ?_
    unfold stepN
    rw [if_neg (by omega), if_neg (by omega), if_neg (by omega), if_neg (by omega), if_neg (by omega), if_neg (by omega), if_pos hl]
  · rw [h.dp] at y4
    exact absurd y4 (nI_ge (b := 4) q (by omega))
  · have hd4 : S.d < 4 := by
      rw [h.dp] at y4
      rcases Nat.lt_or_ge S.d 4 with q | q
      · exact q
      · exact absurd (nI_le (a := 4) q (by omega)) y4
    have e40 := c40.mp y40
    have e : stepN S (tp i) = some (openT S, none) := by
      unfold stepN
      rw [if_neg (by omega), if_neg (by omega), if_pos e40, if_pos hd4]
    rw [nI_1]
    exact q_openG (post := fun v1 v2 v3 v4 v5 v6 v7 u3 => post (nI (i + 1)) rd (dp + 1) (-1) v7 v5 pf u3 v4 v6 pl pe v1 v2 v3 rlt) h (by omega) hd4 (fun cf' cl' ce' rf' rl' re' hp' rb' hR => h1 (i + 1) _ (by omega) (by omega) (hso _ e) (hq1 _ _ e) _ _ _ _ _ _ _ _ _ _ _ _ _ _ hR)
  · have e91 := c91.mp y91
    have e : stepN S (tp i) = some (S, some (1, 0, 0, 0, -1)) := by
      unfold stepN
      rw [if_neg (by omega), if_pos e91]
    have hX : rdT tp t (t - i) i S none = rdT tp t (t - (i + 1)) (i + 1) S (some (1, 0, 0, 0, -1)) := by
      rw [show t - i = t - (i + 1) + 1 by omega]; exact rd_so e
    rw [nI_1]
    refine q_brackets (S := S) ht htp (i := i + 1) (by omega) (fun j hj hr bits at' => ?_) (fun j bits hji hj hr => ?_)
    · exact q_place h (by omega) (fun rd' rlt' rb' hp' rl' pf' rf' re' pl' pe' hR => h0 j hj (hX.trans hr) _ _ _ _ _ _ _ _ _ _ _ _ _ _ _)
    · have hij : i < j + 1 := by omega
      exact q_place h (by omega) (fun rd' rlt' rb' hp' rl' pf' rf' re' pl' pe' hR => h1 (j + 1) _ hij (by omega) (hX.trans hr) (Nat.le_of_eq (join_q _)) _ _ _ _ _ _ _ _ _ _ _ _ _ _ hR)
  · refine hplace 63 ?_
    unfold stepN
    rw [if_pos (c46.mp y46)]
theorem q_parse {tp : Nat → Nat} {t : Nat} {tape : Nat → Int32} {hp rl pf rb rf re pl pe cf cl ce rlt : Nat → Int32} (ht : t ≤ 24) (htp : ∀ i, i < t → tape i = nI (tp i) ∧ tp i < 256) {post : _}
    (h0 : ∀ j, j ≤ t → rdT tp t t 0 TS0 none = (j, none) → ∀ at' rd' dp' cf' cl' ce' rf' rl' re' hp' pf' rb' pl' pe' rlt', post 0 at' rd' dp' (nI j) cf' cl' ce' rf' rl' re' hp' pf' rb' pl' pe' rlt')
    (h1 : ∀ S', rdT tp t t 0 TS0 none = (t, some S') → S'.q ≤ t → BB S' → ∀ at' dp' cf' cl' ce' rf' rl' re' hp' pf' rb' pl' pe' rlt', (cf' 0, cl' 0, ce' 0) = S'.ch 0 → (∀ p, p < S'.q → rlt' p = S'.lt p ∧ rb' p = S'.fo p) → post 1 at' (nI S'.q) dp' (-1) cf' cl' ce' rf' rl' re' hp' pf' rb' pl' pe' rlt') :
    p_M_parse (nI t) cf cl ce rf rl re hp tape pf rb pl pe rlt post := by
  have wrong67 : ∀ j, j ≤ t → rdT tp t t 0 TS0 none = (j, none) → ∀ at' rd' dp' cf' cl' ce' rf' rl' re' hp' pf' rb' pl' pe' rlt', p_M_parse_67 post at' rd' dp' (nI j) cf' cl' ce' rf' rl' re' hp' pf' rb' pl' pe' rlt' := fun j hj e at' rd' dp' cf' cl' ce' rf' rl' re' hp' pf' rb' pl' pe' rlt' => by
    have hn : ¬ nI j = -1 := nI_nm1 (by omega)
    exact ⟨fun _ => ⟨fun _ => ⟨fun _ => h0 j hj e _ _ _ _ _ _ _ _ _ _ _ _ _ _ _, fun z => absurd z hn⟩, fun z => absurd z hn⟩, fun z => absurd z hn⟩
  have end67 : ∀ S at' rd' dp' cf' cl' ce' rf' rl' re' hp' pf' rb' pl' pe' rlt', at' = nI t → S.q ≤ t → rdT tp t t 0 TS0 none = rdT tp t 0 t S none → RTx S rd' dp' hp' rl' pf' rb' rf' re' pl' pe' cf' cl' ce' rlt' → p_M_parse_67 post at' rd' dp' (-1) cf' cl' ce' rf' rl' re' hp' pf' rb' pl' pe' rlt' := fun S at' rd' dp' cf' cl' ce' rf' rl' re' hp' pf' rb' pl' pe' rlt' ea hqt hr h => by
    subst ea
    have hd := h.d4
    have hn : ¬ nI t = -1 := nI_nm1 (by omega)
    have hrd : rdT tp t 0 t S none = (if (none : Option ZS) = none ∧ S.d = 0 ∧ S.pt 0 ≠ none then (t, some (endT S)) else (t, none)) := rfl
    have c0 : (0 : Int32).toNatClampNeg = 0 := by decide
    refine ⟨fun z => absurd rfl z, fun _ => ⟨fun z => ⟨fun y => absurd rfl y, fun _ => ?_⟩, fun z => ⟨vp_in_nI (n := 0) (by omega) (by omega), ?_⟩⟩⟩
    · have hd0 : S.d ≠ 0 := fun q => by rw [h.dp, q] at z; exact absurd z (by decide)
      have e : rdT tp t t 0 TS0 none = (t, none) := by rw [hr, hrd, if_neg (fun q => hd0 q.2.1)]
      exact ⟨fun _ => ⟨fun _ => h0 t (Nat.le_refl _) e _ _ _ _ _ _ _ _ _ _ _ _ _ _ _, fun y => absurd y hn⟩, fun y => absurd y hn⟩
    · have hd0 : S.d = 0 := by
        rcases Nat.eq_zero_or_pos S.d with q | q
        · exact q
        · rw [h.dp] at z; exact absurd (nI_lt (a := 0) q (by omega)) z
      rw [c0]
      refine ⟨fun y => ⟨fun w => absurd rfl w, fun _ => ?_⟩, fun y => ⟨fun w => absurd rfl w, fun _ => ?_⟩⟩
      · have hpt : S.pt 0 ≠ none := fun q => by
          have := h.h0 (by rw [hd0]; exact q)
          rw [hd0] at this; exact y this
        have e : rdT tp t t 0 TS0 none = (t, some (endT S)) := by rw [hr, hrd, if_pos ⟨rfl, hd0, hpt⟩]
        refine q_endRow h (by omega) (fun hp2 rl2 rb2 rf2 re2 cf2 cl2 ce2 hR hC => ⟨fun w => absurd rfl w, fun _ => ?_⟩)
        obtain ⟨jd, jq, jl, jc⟩ := join_d S
        have hqe : (endT S).q = S.q := jq
        rw [h.rd, ← hqe]
        refine h1 (endT S) e (by rw [hqe]; exact hqt) (endBB h.bb) _ _ _ _ _ _ _ _ _ _ _ _ _ _ (hC 0 (Nat.zero_le _)) (fun p hp2 => ⟨?_, ?_⟩)
        · exact hR.lt p hp2
        · have hp2 : p < (joinT S).q := hp2
          refine tb_ext fun x hx => ?_
          have := hR.rb p x hp2 hx
          have hnp : ¬ Pend (joinT S) p x := fun ⟨e, P, he, _⟩ => by rw [jd, hd0] at he; omega
          show tb (rb2 p) x = tb ((joinT S).fo p) x
          cases e1 : tb ((joinT S).fo p) x with
          | true => exact this.mpr (Or.inl e1)
          | false =>
            cases e2 : tb (rb2 p) x with
            | false => rfl
            | true =>
              rcases this.mp e2 with q | q
              · rw [e1] at q; cases q
              · exact absurd q hnp
      · have hpt : S.pt 0 = none := by
          cases eP : S.pt 0 with
          | none => rfl
          | some P =>
            have := (h.h1 P (by rw [hd0]; exact eP)).1
            rw [hd0] at this; exact absurd y this
        have e : rdT tp t t 0 TS0 none = (t, none) := by rw [hr, hrd, if_neg (fun q => q.2.2 hpt)]
        exact ⟨fun _ => ⟨fun _ => h0 t (Nat.le_refl _) e _ _ _ _ _ _ _ _ _ _ _ _ _ _ _, fun y => absurd y hn⟩, fun y => absurd y hn⟩
  have key : ∀ (d i : Nat) (S : TS) rd' dp' cf' cl' ce' rf' rl' re' hp' pf' rb' pl' pe' rlt', t - i ≤ d → i ≤ t → S.q ≤ i → rdT tp t t 0 TS0 none = rdT tp t (t - i) i S none → RTx S rd' dp' hp' rl' pf' rb' rf' re' pl' pe' cf' cl' ce' rlt' → p_M_parse_24 (nI t) tape post (d + 2) (nI i) rd' dp' (-1) cf' cl' ce' rf' rl' re' hp' pf' rb' pl' pe' rlt' := by
    intro d
    induction d using Nat.strongRecOn with
    | ind d ih =>
      intro i S rd' dp' cf' cl' ce' rf' rl' re' hp' pf' rb' pl' pe' rlt' hd hi hq hr h
      by_cases hlt : i < t
      · have hdd := h.d4
        have hv : vp_in dp' 6 := by rw [h.dp]; exact vp_in_nI (by omega) (by omega)
        have hdc : dp'.toNatClampNeg = S.d := by rw [h.dp, nI_clamp (by omega)]
        refine ⟨fun z => absurd z (nI_ge hlt (by omega)), fun _ => ⟨fun z => absurd rfl z, fun _ => ⟨hv, ?_⟩⟩⟩
        rw [hdc]
        have go : ∀ x : Int32, ((x = 1 ∧ S.pt S.d = none) ∨ (x = 0 ∧ S.pt S.d ≠ none)) → p_M_readOne (nI t) (nI i) rd' dp' (-1) tape hp' rl' pf' rb' rf' re' pl' pe' cf' cl' ce' rlt' x (fun u1 u2 u3 u4 u5 u6 u7 u8 u9 u10 u11 u12 u13 u14 u15 u16 => p_M_parse_24 (nI t) tape post (d + 1) u1 u2 u3 u4 u13 u14 u15 u9 u6 u10 u5 u7 u8 u11 u12 u16) := fun x hx => by
          refine q_readOne ht htp hlt hq h hx (fun j hj e at2 rd2 dp2 hp2 rl2 pf2 rb2 rf2 re2 pl2 pe2 cf2 cl2 ce2 rlt2 => ?_) (fun j S' hij hjt e hq' rd2 dp2 hp2 rl2 pf2 rb2 rf2 re2 pl2 pe2 cf2 cl2 ce2 rlt2 hR => ?_)
          · have hn : ¬ nI j = -1 := nI_nm1 (by omega)
            exact ⟨fun _ => wrong67 j hj (hr.trans e) _ _ _ _ _ _ _ _ _ _ _ _ _ _ _, fun _ => ⟨fun _ => wrong67 j hj (hr.trans e) _ _ _ _ _ _ _ _ _ _ _ _ _ _ _, fun z => absurd z hn⟩⟩
          · have := ih (d - 1) (by omega) j S' rd2 dp2 cf2 cl2 ce2 rf2 rl2 re2 hp2 pf2 rb2 pl2 pe2 rlt2 (by omega) hjt (by omega) (hr.trans e) hR
            rw [show d - 1 + 2 = d + 1 by omega] at this
            exact this
        refine ⟨fun z => go 0 (Or.inr ⟨rfl, fun q => z (h.h0 q)⟩), fun z => go 1 (Or.inl ⟨rfl, ?_⟩)⟩
        cases eP : S.pt S.d with
        | none => rfl
        | some P => exact absurd z (h.h1 P eP).1
      · have e : i = t := by omega
        subst e
        rw [Nat.sub_self] at hr
        exact ⟨fun _ => end67 S _ _ _ _ _ _ _ _ _ _ _ _ _ _ _ rfl hq hr h, fun z => absurd (nI_le (Nat.le_refl _) (by omega)) z⟩
  have hv : vp_in (0 : Int32) 6 := vp_in_nI (n := 0) (by omega) (by omega)
  have c0 : (0 : Int32).toNatClampNeg = 0 := by decide
  unfold p_M_parse p_M_open p_M_beginRow
  rw [c0, nar0, nar1]
  refine ⟨hv, hv, hv, hv, hv, hv, hv, t + 2, ?_⟩
  refine key t 0 TS0 _ _ _ _ _ _ _ _ _ _ _ _ _ _ (by omega) (Nat.zero_le _) (Nat.le_refl _) rfl ⟨by show 0 ≤ 4; omega, rfl, rfl, fun e he => ?_, fun e he => absurd he (Nat.not_lt_zero _), ?_, fun _ => ?_, (fun P hP => by cases hP), fun p hp2 => absurd hp2 (Nat.not_lt_zero _), fun p x hp2 => absurd hp2 (Nat.not_lt_zero _), ⟨fun e he p hp2 => tb_0 p, fun e he p hp2 => tb_0 p, (fun e P he hP => by cases hP), fun e he => Or.inl rfl, (fun e P he hP => by cases hP)⟩⟩
  · have : e = 0 := Nat.le_zero.mp he
    subst this
    rw [pk_us, pk_us, pk_us]; rfl
  · show (upd rf 0 0 0, upd rl 0 0 0, upd re 0 1 0) = ((0 : Int32), (0 : Int32), (1 : Int32))
    rw [pk_us, pk_us, pk_us]
  · show upd hp 0 0 0 = 0
    rw [pk_us]