/-! The rules of both, and rule -/
def sw {α : Type} (f : Nat → α) (M : Nat) (v : α) : Nat → α := fun k => if k = M then v else f k
theorem sw_s {α : Type} {f : Nat → α} {M : Nat} {v : α} : sw f M v M = v := if_pos rfl
theorem sw_n {α : Type} {f : Nat → α} {M k : Nat} {v : α} (h : k ≠ M) : sw f M v k = f k := if_neg h
def WB (D : Nat → Md) (G : Nat → Nat → Nat) (n : Nat → Nat) (s : Nat → Nat → Nat) (fa fw : Nat → Nat → Int32) (gap kn : Nat → Int32) (R : Nat) (ac : Nat → Nat) (moc aoc : Nat → Int32) (many lts be mo ao fs ls : Nat → Int32) : Prop :=
  (RT D G n s R many lts be mo fs ls) ∧
  (∀ M, M < 3 → Mach (D M).au (G M) (n M) (s M) (fa M) (fw M)) ∧
  (∀ M, M < 3 → LaB (D M)) ∧
  (∀ r, ac r ≤ 4) ∧
  (∀ r, r < 16 → aoc r = nI (ac r)) ∧
  (∀ r, r < 16 → ao r = nI (ac r)) ∧
  (∀ r, r < R → moc r = mo r ∧ ∃ M, M < 3 ∧ mo r = nI M) ∧
  (∀ M, M < 3 → WG (D M).au (G M) (n M) (s M) (gap M) (kn M))
theorem WB.T {D : Nat → Md} {G : Nat → Nat → Nat} {n : Nat → Nat} {s : Nat → Nat → Nat} {fa fw : Nat → Nat → Int32} {gap kn : Nat → Int32} {R : Nat} {ac : Nat → Nat} {moc aoc : Nat → Int32} {many lts be mo ao fs ls : Nat → Int32} (h_ : WB D G n s fa fw gap kn R ac moc aoc many lts be mo ao fs ls) : RT D G n s R many lts be mo fs ls := h_.1
theorem WB.hMa {D : Nat → Md} {G : Nat → Nat → Nat} {n : Nat → Nat} {s : Nat → Nat → Nat} {fa fw : Nat → Nat → Int32} {gap kn : Nat → Int32} {R : Nat} {ac : Nat → Nat} {moc aoc : Nat → Int32} {many lts be mo ao fs ls : Nat → Int32} (h_ : WB D G n s fa fw gap kn R ac moc aoc many lts be mo ao fs ls) : ∀ M, M < 3 → Mach (D M).au (G M) (n M) (s M) (fa M) (fw M) := h_.2.1
theorem WB.lab {D : Nat → Md} {G : Nat → Nat → Nat} {n : Nat → Nat} {s : Nat → Nat → Nat} {fa fw : Nat → Nat → Int32} {gap kn : Nat → Int32} {R : Nat} {ac : Nat → Nat} {moc aoc : Nat → Int32} {many lts be mo ao fs ls : Nat → Int32} (h_ : WB D G n s fa fw gap kn R ac moc aoc many lts be mo ao fs ls) : ∀ M, M < 3 → LaB (D M) := h_.2.2.1
theorem WB.hac {D : Nat → Md} {G : Nat → Nat → Nat} {n : Nat → Nat} {s : Nat → Nat → Nat} {fa fw : Nat → Nat → Int32} {gap kn : Nat → Int32} {R : Nat} {ac : Nat → Nat} {moc aoc : Nat → Int32} {many lts be mo ao fs ls : Nat → Int32} (h_ : WB D G n s fa fw gap kn R ac moc aoc many lts be mo ao fs ls) : ∀ r, ac r ≤ 4 := h_.2.2.2.1
theorem WB.haoc {D : Nat → Md} {G : Nat → Nat → Nat} {n : Nat → Nat} {s : Nat → Nat → Nat} {fa fw : Nat → Nat → Int32} {gap kn : Nat → Int32} {R : Nat} {ac : Nat → Nat} {moc aoc : Nat → Int32} {many lts be mo ao fs ls : Nat → Int32} (h_ : WB D G n s fa fw gap kn R ac moc aoc many lts be mo ao fs ls) : ∀ r, r < 16 → aoc r = nI (ac r) := h_.2.2.2.2.1
theorem WB.hao {D : Nat → Md} {G : Nat → Nat → Nat} {n : Nat → Nat} {s : Nat → Nat → Nat} {fa fw : Nat → Nat → Int32} {gap kn : Nat → Int32} {R : Nat} {ac : Nat → Nat} {moc aoc : Nat → Int32} {many lts be mo ao fs ls : Nat → Int32} (h_ : WB D G n s fa fw gap kn R ac moc aoc many lts be mo ao fs ls) : ∀ r, r < 16 → ao r = nI (ac r) := h_.2.2.2.2.2.1
theorem WB.hmo {D : Nat → Md} {G : Nat → Nat → Nat} {n : Nat → Nat} {s : Nat → Nat → Nat} {fa fw : Nat → Nat → Int32} {gap kn : Nat → Int32} {R : Nat} {ac : Nat → Nat} {moc aoc : Nat → Int32} {many lts be mo ao fs ls : Nat → Int32} (h_ : WB D G n s fa fw gap kn R ac moc aoc many lts be mo ao fs ls) : ∀ r, r < R → moc r = mo r ∧ ∃ M, M < 3 ∧ mo r = nI M := h_.2.2.2.2.2.2.1
theorem WB.hg {D : Nat → Md} {G : Nat → Nat → Nat} {n : Nat → Nat} {s : Nat → Nat → Nat} {fa fw : Nat → Nat → Int32} {gap kn : Nat → Int32} {R : Nat} {ac : Nat → Nat} {moc aoc : Nat → Int32} {many lts be mo ao fs ls : Nat → Int32} (h_ : WB D G n s fa fw gap kn R ac moc aoc many lts be mo ao fs ls) : ∀ M, M < 3 → WG (D M).au (G M) (n M) (s M) (gap M) (kn M) := h_.2.2.2.2.2.2.2

theorem WB.g0 {D : Nat → Md} {G : Nat → Nat → Nat} {n : Nat → Nat} {s : Nat → Nat → Nat} {fa fw : Nat → Nat → Int32} {gap kn : Nat → Int32} {R : Nat} {ac : Nat → Nat} {moc aoc many lts be mo ao fs ls : Nat → Int32} (h : WB D G n s fa fw gap kn R ac moc aoc many lts be mo ao fs ls) : ∀ M, M < 3 → G M 0 = 0 := fun M hM => (h.T.mi M hM).zeros (au_ok (h.T.dok M hM))
theorem WB.R16 {D : Nat → Md} {G : Nat → Nat → Nat} {n : Nat → Nat} {s : Nat → Nat → Nat} {fa fw : Nat → Nat → Int32} {gap kn : Nat → Int32} {R : Nat} {ac : Nat → Nat} {moc aoc many lts be mo ao fs ls : Nat → Int32} (h : WB D G n s fa fw gap kn R ac moc aoc many lts be mo ao fs ls) : R ≤ 16 := (h.T.rd 0 (by omega)).hR
theorem WB.add {D : Nat → Md} {G : Nat → Nat → Nat} {n : Nat → Nat} {s : Nat → Nat → Nat} {fa fw : Nat → Nat → Int32} {gap kn : Nat → Int32} {R : Nat} {ac : Nat → Nat} {moc aoc many lts be mo ao fs ls : Nat → Int32} (h : WB D G n s fa fw gap kn R ac moc aoc many lts be mo ao fs ls) {M : Nat} (hM : M < 3) {D' : Md} {S : TS} (hD : MdAdd (D M) D' S R) (hok : DOk D') {n' : Nat} {g' s' : Nat → Nat} {fa' fw' : Nat → Int32} (hmi : Mini D'.au g' n' s') (hma : Mach D'.au g' n' s' fa' fw') {gap' : Int32} (hR : R < 16) (h9 : (D M).P + S.q ≤ 9) (hBB : BB S) {a : Nat} (ha : a ≤ 4) {lts' be' : Nat → Int32} (hf : ∀ k, (k < 9 * M + (D M).P ∨ 9 * M + (D M).P + S.q ≤ k) → lts' k = lts k ∧ be' k = be k) (hs : ∀ i, i < S.q → lts' (9 * M + ((D M).P + i)) = S.lt i ∧ be' (9 * M + ((D M).P + i)) = S.fo i <<< (nI (D M).P &&& 31)) :
    WB (sw D M D') (sw G M g') (sw n M n') (sw s M s') (sw fa M fa') (sw fw M fw') (sw gap M gap') (sw kn M 0) (R + 1) (sw ac R a) (upd moc R (nI M)) (upd aoc R (nI a)) (upd many M (nI ((D M).P + S.q))) lts' be' (upd mo R (nI M)) (upd ao R (nI a)) (upd fs R ((S.ch 0).1 <<< (nI (D M).P &&& 31))) (upd ls R ((S.ch 0).2.1 <<< (nI (D M).P &&& 31))) := by
  have hb : ∀ p, S.q ≤ p → tb (S.ch 0).2.1 p = false := hBB.ch 0 (Nat.zero_le _)
  have hP9 : ∀ M, M < 3 → (D M).P ≤ 9 := fun M hM => (h.T.dok M hM).hP
  refine ⟨⟨fun M' hM' => ?_, fun M' hM' => ?_, fun M' hM' => ?_⟩, fun M' hM' => ?_, fun M' hM' => ?_, fun r => ?_, fun r hr => ?_, fun r hr => ?_, fun r hr => ?_, fun M' hM' => ?_⟩
  · by_cases e : M' = M
    · subst e; rw [sw_s]; exact hok
    · rw [sw_n e]; exact h.T.dok M' hM'
  · by_cases e : M' = M
    · subst e
      rw [sw_s]
      refine (h.T.rd M' hM').add hD (h.T.dok M' hM') (h.lab M' hM') h9 hR hb pk_us (fun p hp => (hf _ (Or.inl (by omega))).1) (fun p hp => (hf _ (Or.inl (by omega))).2) (fun i hi => (hs i hi).1) (fun i hi => (hs i hi).2)
    · rw [sw_n e]
      have hq : ∀ p, p < 9 → lts' (9 * M' + p) = lts (9 * M' + p) ∧ be' (9 * M' + p) = be (9 * M' + p) := fun p hp => hf _ (by
        rcases Nat.lt_or_gt_of_ne e with y | y
        · left; omega
        · right; omega)
      exact (h.T.rd M' hM').other e hM hR (pk_un e) (fun p hp => (hq p hp).1) (fun p hp => (hq p hp).2)
  · by_cases e : M' = M
    · subst e; rw [sw_s, sw_s, sw_s, sw_s]; exact hmi
    · rw [sw_n e, sw_n e, sw_n e, sw_n e]; exact h.T.mi M' hM'
  · by_cases e : M' = M
    · subst e; rw [sw_s, sw_s, sw_s, sw_s, sw_s, sw_s]; exact hma
    · rw [sw_n e, sw_n e, sw_n e, sw_n e, sw_n e, sw_n e]; exact h.hMa M' hM'
  · by_cases e : M' = M
    · subst e; rw [sw_s]; exact hD.lab (h.lab M' hM') h9 hb
    · rw [sw_n e]; exact h.lab M' hM'
  · by_cases e : r = R
    · subst e; rw [sw_s]; exact ha
    · rw [sw_n e]; exact h.hac r
  · by_cases e : r = R
    · subst e; rw [sw_s, pk_us]
    · rw [sw_n e, pk_un e]; exact h.haoc r hr
  · by_cases e : r = R
    · subst e; rw [sw_s, pk_us]
    · rw [sw_n e, pk_un e]; exact h.hao r hr
  · by_cases e : r = R
    · subst e; rw [pk_us, pk_us]; exact ⟨rfl, M, hM, rfl⟩
    · rw [pk_un e, pk_un e]; exact h.hmo r (by omega)
  · by_cases e : M' = M
    · subst e; rw [sw_s, sw_s, sw_s, sw_s, sw_s, sw_s]; exact fun q => absurd rfl q
    · rw [sw_n e, sw_n e, sw_n e, sw_n e, sw_n e, sw_n e]; exact h.hg M' hM'
/-- what the reference has made of the other modes stands -/
theorem WB.rk {D : Nat → Md} {G : Nat → Nat → Nat} {n : Nat → Nat} {s : Nat → Nat → Nat} {fa fw : Nat → Nat → Int32} {gap kn : Nat → Int32} {R : Nat} {ac : Nat → Nat} {moc aoc many lts be mo ao fs ls : Nat → Int32} (h : WB D G n s fa fw gap kn R ac moc aoc many lts be mo ao fs ls) {ma no se st gr sa gs : Nat → Int32} (K : RK D G n s ma no se st gr sa gs) {M : Nat} {D' : Md} {n' : Nat} {g' s' : Nat → Nat} : RK (sw D M D') (sw G M g') (sw n M n') (sw s M s') (upd ma M 0) no se st gr sa gs := by
  intro M' hM' hne
  by_cases e : M' = M
  · subst e; rw [pk_us] at hne; exact absurd rfl hne
  · rw [pk_un e] at hne
    rw [sw_n e, sw_n e, sw_n e, sw_n e]
    exact K M' hM' hne
/-- a rule is not made -/
theorem q2_ruleF {D : Nat → Md} {G : Nat → Nat → Nat} {n : Nat → Nat} {s : Nat → Nat → Nat} {fa fw : Nat → Nat → Int32} {gap kn : Nat → Int32} {R : Nat} {ac : Nat → Nat} {moc aoc many lts be mo ao fs ls : Nat → Int32} (h : WB D G n s fa fw gap kn R ac moc aoc many lts be mo ao fs ls) {noW emW : Nat} {LP : List Nat} {PF : Nat → Pc} (hP : Pool LP PF noW emW) {tp : Nat → Nat} {t : Nat} {tl ty : Int32} {ta tm : Nat → Int32} (hT : WT tp t tl ty ta tm) {th en x1 x2 : Int32} {fr ot da na fm : Int32} {ch sq pt : Nat → Option Nat} {fo lt : Nat → Int32}
    {cf cl ce rf rl re hp pf rb pl pe rlt rat ma : Nat → Int32}
    (hno : ∀ S', rdT tp t t 0 TS0 none = (t, some S') → ¬ UW th en → ¬ RoomR (fun M => (D M).P) R S'.q x1 x2) {post : _}
    (hpost : ∀ r a1 a2 a3 a4 a5 a6 a7 a8 b1 b2 b3 c1 c2 LP' PF', Pool LP' PF' noW emW → (∀ pm : _, (∀ a1 a2 a3 a4 b1 b2 b3 b4 b5 b6 b7 b8 b9 c1 c2 c3, pm r 0 0 (nI R) a1 a2 a3 a4 b1 b2 b3 b4 b5 b6 b7 b8 b9 c1 c2 c3 many lts rat be mo ao fs ls ma) → p_M_rule ty (nI R) th en cf cl ce rf rl re hp tm pf rb pl pe rlt many lts rat be mo ao fs ls ma x1 x2 pm) → post r 0 a1 a2 a3 a4 a5 a6 a7 a8 b1 b2 b3 c1 c2 LP' PF') :
    p_TB_ruleF tl noW emW fr ot da na fm ch sq pt ta fo lt th en (nI R) (nI (D 0).P) (nI (D 1).P) (nI (D 2).P) LP PF x1 x2 post := by
  obtain ⟨t1, t2, t3, t4⟩ := hT
  subst t2 t3
  have hP9 : ∀ M, M < 3 → (D M).P ≤ 9 := fun M hM => (h.T.dok M hM).hP
  have hD : ∀ M, M < 3 → (D M).P ≤ 9 ∧ many M = nI (D M).P := fun M hM => ⟨hP9 M hM, (h.T.rd M hM).many⟩
  refine q_ruleF hP t1 (fun i hi => ⟨(t4 i hi).1, (t4 i hi).2.2⟩) hP9 h.R16 hno (fun j hj ej a1 a2 a3 a4 a5 a6 a7 a8 b1 b2 b3 c1 c2 LP' PF' hP' => hpost _ _ _ _ _ _ _ _ _ _ _ _ _ _ _ _ hP' (fun pm hm => ?_)) (fun S' eS a1 a2 a3 a4 a5 a6 a7 a8 b1 b2 b3 c1 c2 LP' PF' hP' => hpost _ _ _ _ _ _ _ _ _ _ _ _ _ _ _ _ hP' (fun pm hm => ?_))
  · refine q_M_rule (D := D) t1 (fun i hi => (t4 i hi).2) hD h.R16 (fun j' hj' ej' a1 a2 a3 a4 b1 b2 b3 b4 b5 b6 b7 b8 b9 c1 c2 c3 => ?_) (fun S eS => ?_) (fun S M eS => ?_)
    · have : j = j' := congrArg Prod.fst (ej.symm.trans ej')
      subst this
      exact hm _ _ _ _ _ _ _ _ _ _ _ _ _ _ _ _
    · exact absurd (congrArg Prod.snd (ej.symm.trans eS)) (by intro q; cases q)
    · exact absurd (congrArg Prod.snd (ej.symm.trans eS)) (by intro q; cases q)
  · refine q_M_rule (D := D) t1 (fun i hi => (t4 i hi).2) hD h.R16 (fun j' hj' ej' => ?_) (fun S eS' _ a1 a2 a3 a4 b1 b2 b3 b4 b5 b6 b7 b8 b9 c1 c2 c3 => hm _ _ _ _ _ _ _ _ _ _ _ _ _ _ _ _) (fun S M eS' hu _ hM eM hR h9 ha => ?_)
    · exact absurd (congrArg Prod.snd (eS.symm.trans ej')) (by intro q; cases q)
    · exact absurd ⟨hR, ⟨M, hM, eM, h9⟩, ha⟩ (hno S eS' hu)
/-- the reference makes the rule that the program has made -/
theorem q2_ruleM {D : Nat → Md} {G : Nat → Nat → Nat} {n : Nat → Nat} {s : Nat → Nat → Nat} {fa fw : Nat → Nat → Int32} {gap kn : Nat → Int32} {R : Nat} {ac : Nat → Nat} {moc aoc many lts be mo ao fs ls : Nat → Int32} (h : WB D G n s fa fw gap kn R ac moc aoc many lts be mo ao fs ls) {tp : Nat → Nat} {t : Nat} {tl ty : Int32} {ta tm : Nat → Int32} (hT : WT tp t tl ty ta tm) {th en x2 : Int32} {S : TS} (hrd : rdT tp t t 0 TS0 none = (t, some S)) (hu : ¬ UW th en) {M : Nat} (hM : M < 3) (hroom : RoomR (fun M => (D M).P) R S.q (nI M) x2) {D' : Md} (hD : MdAdd (D M) D' S R) (hok : DOk D') {n' : Nat} {g' s' : Nat → Nat} {fa' fw' : Nat → Int32} (hmi : Mini D'.au g' n' s') (hma : Mach D'.au g' n' s' fa' fw') {gap' : Int32}
    {cf cl ce rf rl re hp pf rb pl pe rlt rat ma : Nat → Int32} {pm : _}
    (hm : ∀ ac' a1 a2 a3 a4 b1 b2 b3 b4 b5 b6 b7 b8 b9 c1 c2 c3 e1 e2 e3 e4 e5 e6 e7 e8, WB (sw D M D') (sw G M g') (sw n M n') (sw s M s') (sw fa M fa') (sw fw M fw') (sw gap M gap') (sw kn M 0) (R + 1) ac' (upd moc R (nI M)) (upd aoc R x2) e1 e2 e4 e5 e6 e7 e8 → pm (nI R) 0 0 (nI (R + 1)) a1 a2 a3 a4 b1 b2 b3 b4 b5 b6 b7 b8 b9 c1 c2 c3 e1 e2 e3 e4 e5 e6 e7 e8 (upd ma M 0)) :
    p_M_rule ty (nI R) th en cf cl ce rf rl re hp tm pf rb pl pe rlt many lts rat be mo ao fs ls ma (nI M) x2 pm := by
  obtain ⟨t1, t2, t3, t4⟩ := hT
  subst t2 t3
  have hD9 : ∀ M, M < 3 → (D M).P ≤ 9 ∧ many M = nI (D M).P := fun M hM => ⟨(h.T.dok M hM).hP, (h.T.rd M hM).many⟩
  refine q_M_rule (D := D) t1 (fun i hi => (t4 i hi).2) hD9 h.R16 (fun j' hj' ej' => ?_) (fun S' eS' hn => ?_) (fun S' M' eS' hu' hBB hM' eM' hR h9 ha a1 a2 a3 a4 b1 b2 b3 b4 b5 b6 b7 b8 b9 c1 c2 c3 lts' rat' be' hf hs => ?_)
  · exact absurd (congrArg Prod.snd (hrd.symm.trans ej')) (by intro q; cases q)
  · have e : S = S' := Option.some.inj (congrArg Prod.snd (hrd.symm.trans eS'))
    subst e
    exfalso
    rcases hn with y | y
    · exact hu y
    · exact y hroom
  · have e : S = S' := Option.some.inj (congrArg Prod.snd (hrd.symm.trans eS'))
    subst e
    have e2 := (nI_eq (by omega) (by omega)).mp eM'
    subst e2
    obtain ⟨a, ha, ea⟩ := ha
    subst ea
    exact hm _ _ _ _ _ _ _ _ _ _ _ _ _ _ _ _ _ _ _ _ _ _ _ _ _ (h.add hM hD hok hmi hma hR h9 hBB ha hf hs)