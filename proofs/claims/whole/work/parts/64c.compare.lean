/-! Two machines: compare -/
def decN : Nat → Option Nat
  | 0 => none
  | s + 1 => some s
theorem dec_oN (o : Option Nat) : decN (oN o) = o := by cases o <;> rfl
/-- what a node of either machine wins behind v -/
def phi (tra : Nat → Nat → Option Nat) (wa : Nat → Prop) (trb : Nat → Nat → Option Nat) (wb : Nat → Prop) (v : List Nat) (x : Nat) : Prop := if x < 513 then mw wa (mrun tra (decN x) v) else mw wb (mrun trb (decN (x - 513)) v)
/-- pairs tie their nodes -/
def PRf (tra trb : Nat → Nat → Option Nat) (P : Nat) (u : Nat → List Nat) (φ : Nat → Prop) : Prop := ∀ i, i < P → (φ (oN (mrun tra (some 0) (u i))) ↔ φ (oN (mrun trb (some 0) (u i)) + 513))
/-- the search under way: pair j, letter c -/
def CI (tra : Nat → Nat → Option Nat) (wa : Nat → Prop) (trb : Nat → Nat → Option Nat) (wb : Nat → Prop) (j c P : Nat) (u : Nat → List Nat) (le ri ld be lt : Nat → Int32) : Prop :=
  (CQ P u be lt) ∧
  (∀ i, i < P → le i = oc (mrun tra (some 0) (u i))) ∧
  (∀ i, i < P → ri i = oc (mrun trb (some 0) (u i))) ∧
  (∀ i k, i < k → k < P → cd (u i) < cd (u k)) ∧
  (∀ i, i < P → ¬ tellq tra wa trb wb (some 0) (some 0) (u i)) ∧
  (∀ i, i < P → j < P → cd (u i) < cd (u j ++ [c])) ∧
  (∀ i c', i < P → c' < 6 → (i < j ∨ (i = j ∧ c' < c)) → (∃ k, k < P ∧ u k = u i ++ [c']) ∨ ∀ v, W6 v → tellq tra wa trb wb (some 0) (some 0) (u i ++ [c'] ++ v) → ∃ k, k < P ∧ cd (u k) < cd (u i ++ [c']) ∧ tellq tra wa trb wb (some 0) (some 0) (u k ++ v)) ∧
  (∃ lN rho rk, UF P ld lN rho rk (PRf tra trb P u))
theorem CI.cq {tra : Nat → Nat → Option Nat} {wa : Nat → Prop} {trb : Nat → Nat → Option Nat} {wb : Nat → Prop} {j c P : Nat} {u : Nat → List Nat} {le ri ld be lt : Nat → Int32} (h_ : CI tra wa trb wb j c P u le ri ld be lt) : CQ P u be lt := h_.1
theorem CI.le {tra : Nat → Nat → Option Nat} {wa : Nat → Prop} {trb : Nat → Nat → Option Nat} {wb : Nat → Prop} {j c P : Nat} {u : Nat → List Nat} {le ri ld be lt : Nat → Int32} (h_ : CI tra wa trb wb j c P u le ri ld be lt) : ∀ i, i < P → le i = oc (mrun tra (some 0) (u i)) := h_.2.1
theorem CI.ri {tra : Nat → Nat → Option Nat} {wa : Nat → Prop} {trb : Nat → Nat → Option Nat} {wb : Nat → Prop} {j c P : Nat} {u : Nat → List Nat} {le ri ld be lt : Nat → Int32} (h_ : CI tra wa trb wb j c P u le ri ld be lt) : ∀ i, i < P → ri i = oc (mrun trb (some 0) (u i)) := h_.2.2.1
theorem CI.inc {tra : Nat → Nat → Option Nat} {wa : Nat → Prop} {trb : Nat → Nat → Option Nat} {wb : Nat → Prop} {j c P : Nat} {u : Nat → List Nat} {le ri ld be lt : Nat → Int32} (h_ : CI tra wa trb wb j c P u le ri ld be lt) : ∀ i k, i < k → k < P → cd (u i) < cd (u k) := h_.2.2.2.1
theorem CI.nt {tra : Nat → Nat → Option Nat} {wa : Nat → Prop} {trb : Nat → Nat → Option Nat} {wb : Nat → Prop} {j c P : Nat} {u : Nat → List Nat} {le ri ld be lt : Nat → Int32} (h_ : CI tra wa trb wb j c P u le ri ld be lt) : ∀ i, i < P → ¬ tellq tra wa trb wb (some 0) (some 0) (u i) := h_.2.2.2.2.1
theorem CI.lst {tra : Nat → Nat → Option Nat} {wa : Nat → Prop} {trb : Nat → Nat → Option Nat} {wb : Nat → Prop} {j c P : Nat} {u : Nat → List Nat} {le ri ld be lt : Nat → Int32} (h_ : CI tra wa trb wb j c P u le ri ld be lt) : ∀ i, i < P → j < P → cd (u i) < cd (u j ++ [c]) := h_.2.2.2.2.2.1
theorem CI.pr {tra : Nat → Nat → Option Nat} {wa : Nat → Prop} {trb : Nat → Nat → Option Nat} {wb : Nat → Prop} {j c P : Nat} {u : Nat → List Nat} {le ri ld be lt : Nat → Int32} (h_ : CI tra wa trb wb j c P u le ri ld be lt) : ∀ i c', i < P → c' < 6 → (i < j ∨ (i = j ∧ c' < c)) → (∃ k, k < P ∧ u k = u i ++ [c']) ∨ ∀ v, W6 v → tellq tra wa trb wb (some 0) (some 0) (u i ++ [c'] ++ v) → ∃ k, k < P ∧ cd (u k) < cd (u i ++ [c']) ∧ tellq tra wa trb wb (some 0) (some 0) (u k ++ v) := h_.2.2.2.2.2.2.1
theorem CI.uf {tra : Nat → Nat → Option Nat} {wa : Nat → Prop} {trb : Nat → Nat → Option Nat} {wb : Nat → Prop} {j c P : Nat} {u : Nat → List Nat} {le ri ld be lt : Nat → Int32} (h_ : CI tra wa trb wb j c P u le ri ld be lt) : ∃ lN rho rk, UF P ld lN rho rk (PRf tra trb P u) := h_.2.2.2.2.2.2.2

theorem phi_tell {na nb : Nat} {faa fwa fab fwb : Nat → Int32} {tra trb : Nat → Nat → Option Nat} {wa wb : Nat → Prop} (Qa : QM na faa fwa tra wa) (Qb : QM nb fab fwb trb wb) (ha0 : 0 < na) (hb0 : 0 < nb) {u v : List Nat} (hu : W6 u) : (phi tra wa trb wb v (oN (mrun tra (some 0) u)) ↔ phi tra wa trb wb v (oN (mrun trb (some 0) u) + 513)) ↔ ¬ tellq tra wa trb wb (some 0) (some 0) (u ++ v) := by
  have h1 := (oc_node Qa.le (Qa.oinr u (some 0) ha0 hu)).2
  unfold phi tellq
  rw [if_pos (by omega), if_neg (by omega), dec_oN, show oN (mrun trb (some 0) u) + 513 - 513 = oN (mrun trb (some 0) u) by omega, dec_oN, mrun_app, mrun_app]
  exact ⟨fun h q => q h, fun h => Classical.byContradiction h⟩
theorem q_findsD {na nb : Nat} {faa fwa fab fwb : Nat → Int32} {tra trb : Nat → Nat → Option Nat} {wa wb : Nat → Prop} (Qa : QM na faa fwa tra wa) (Qb : QM nb fab fwb trb wb) (ha0 : 0 < na) (hb0 : 0 < nb) {j P : Nat} {u : Nat → List Nat} {le ri ld be lt : Nat → Int32} (hj : j < P) (h : CI tra wa trb wb j 0 P u le ri ld be lt) {post : Int32 → Int32 → (Nat → Int32) → (Nat → Int32) → (Nat → Int32) → (Nat → Int32) → (Nat → Int32) → Prop}
    (h0 : ∀ P' u' le' ri' ld' be' lt', P ≤ P' → CI tra wa trb wb (j + 1) 0 P' u' le' ri' ld' be' lt' → post 0 (nI P') le' ri' ld' be' lt')
    (h1 : ∀ P' u' le' ri' ld' be' lt', P' ≤ 1026 → CQ (P' + 1) u' be' lt' → tellq tra wa trb wb (some 0) (some 0) (u' P') → (∀ w, W6 w → tellq tra wa trb wb (some 0) (some 0) w → cd (u' P') ≤ cd w) → post 1 (nI (P' + 1)) le' ri' ld' be' lt') :
    p_Comparison_findsDifference (nI P) le na fwa (6 * na) faa ri nb fwb (6 * nb) fab ld be lt (nI j) post := by
  refine pk_loop (σ := Nat × (Nat → List Nat) × (Nat → Int32) × (Nat → Int32) × (Nat → Int32) × (Nat → Int32) × (Nat → Int32)) (fun k c z => p_Comparison_findsDifference_3 na fwa (6 * na) faa nb fwb (6 * nb) fab (nI j) post k (nI c) (nI z.1) z.2.2.1 z.2.2.2.1 z.2.2.2.2.1 z.2.2.2.2.2.1 z.2.2.2.2.2.2) (fun c z => P ≤ z.1 ∧ CI tra wa trb wb j c z.1 z.2.1 z.2.2.1 z.2.2.2.1 z.2.2.2.2.1 z.2.2.2.2.2.1 z.2.2.2.2.2.2) 6 0 (P, u, le, ri, ld, be, lt) (Nat.zero_le _) ⟨Nat.le_refl _, h⟩ ?_ ?_
  · rintro k ⟨P', u', le', ri', ld', be', lt'⟩ ⟨hPP, hI⟩
    dsimp only at hPP hI ⊢
    refine ⟨fun _ => h0 P' u' le' ri' ld' be' lt' hPP ⟨hI.cq, hI.le, hI.ri, hI.inc, hI.nt, fun i hi hj1 => ?_, fun i c' hi hc hlt => ?_, hI.uf⟩, fun z => absurd (by decide) z⟩
    · have h1 := hI.lst i hi (by omega)
      have h2 := hI.inc j (j + 1) (by omega) hj1
      rw [cd_snoc] at h1 ⊢
      omega
    · refine hI.pr i c' hi hc ?_
      rcases hlt with z | ⟨-, z⟩
      · by_cases e : i = j
        · exact Or.inr ⟨e, hc⟩
        · exact Or.inl (by omega)
      · exact absurd z (Nat.not_lt_zero _)
  · rintro k c ⟨P', u', le', ri', ld', be', lt'⟩ hc ⟨hPP, hI⟩ hk
    dsimp only at hPP hI hk ⊢
    have hjP : j < P' := by omega
    obtain ⟨lN, rho, rk, hU⟩ := hI.uf
    have hT := hU.lt
    have hwj := hI.cq.w6 j hjP
    have hw' := hwj.snoc hc
    have oa := Qa.oinr (u' j) (some 0) ha0 hwj
    have ob := Qb.oinr (u' j) (some 0) hb0 hwj
    have oa' := Qa.oinr (u' j ++ [c]) (some 0) ha0 hw'
    have ob' := Qb.oinr (u' j ++ [c]) (some 0) hb0 hw'
    have hj7 : vp_in (nI j) 1027 := vp_in_nI (by omega) (by omega)
    have hP7 : vp_in (nI P') 1027 := vp_in_nI (by omega) (by omega)
    refine ⟨fun z => absurd z (nI_ge (b := 6) hc (by omega)), fun _ => ⟨hj7, ?_⟩⟩
    rw [nI_clamp (n := j) (by omega), hI.le j hjP, hI.ri j hjP, nI_1]
    refine q_aftO Qa oa hc ⟨hj7, q_aftO Qb ob hc ?_⟩
    rw [← mrun_snoc, ← mrun_snoc]
    -- the new word
    have hadd : ∀ x, (∀ i, i < P' + 1 → (if i = P' then u' j ++ [c] else u' i) = x i) → CQ (P' + 1) x (upd be' P' (nI j)) (upd lt' P' (nI c)) := fun x hx => by
      have hc1 := hI.cq.add hjP hc
      refine ⟨by rw [← hx 0 (by omega)]; exact hc1.u0, fun i hi => by rw [← hx i hi]; exact hc1.w6 i hi, fun i hi0 hi => ?_⟩
      obtain ⟨b, d, hb, hd, e1, e2, e3⟩ := hc1.tr i hi0 hi
      exact ⟨b, d, hb, hd, e1, e2, by rw [← hx i hi, ← hx b (by omega)]; exact e3⟩
    have hQn := hI.cq.add hjP hc
    have hdiff : tellq tra wa trb wb (some 0) (some 0) (u' j ++ [c]) → post 1 (nI (P' + 1)) (upd le' P' (oc (mrun tra (some 0) (u' j ++ [c])))) (upd ri' P' (oc (mrun trb (some 0) (u' j ++ [c])))) ld' (upd be' P' (nI j)) (upd lt' P' (nI c)) := fun ht => by
      refine h1 P' (fun i => if i = P' then u' j ++ [c] else u' i) _ _ _ _ _ (by omega) hQn (by rw [if_pos rfl]; exact ht) (fun w hw htw => ?_)
      rw [if_pos rfl]
      rcases Nat.lt_or_ge (cd w) (cd (u' j ++ [c])) with z | z
      · exfalso
        refine least hI.cq (by omega) (fun a => a < cd (u' j ++ [c])) (fun a b h1 h2 => by omega) hI.nt (fun i c' hi hc' hlt => ?_) w hw z htw
        refine hI.pr i c' hi hc' ?_
        rw [cd_snoc, cd_snoc] at hlt
        rcases Nat.lt_trichotomy i j with y | y | y
        · exact Or.inl y
        · subst y; exact Or.inr ⟨rfl, by omega⟩
        · have := hI.inc j i y hi; omega
      · exact z
    have hbody : (tellq tra wa trb wb (some 0) (some 0) (u' j ++ [c]) → False) → p_Comparison_tie ld' (oc (mrun tra (some 0) (u' j ++ [c])) + 1) (((oc (mrun trb (some 0) (u' j ++ [c])) + 1) + 512) + 1) (fun r u1 => (r = 0 → p_Comparison_findsDifference_3 na fwa (6 * na) faa nb fwb (6 * nb) fab (nI j) post k (nI (c + 1)) (nI P') le' ri' u1 be' lt') ∧ (¬ r = 0 → p_Comparison_add (nI P') le' ri' be' lt' (oc (mrun tra (some 0) (u' j ++ [c]))) (oc (mrun trb (some 0) (u' j ++ [c]))) (nI j) (nI c) (fun a1 a2 a3 a4 a5 => p_Comparison_findsDifference_3 na fwa (6 * na) faa nb fwb (6 * nb) fab (nI j) post k (nI (c + 1)) a1 a2 a3 u1 a4 a5))) := fun hnt => by
      obtain ⟨ea, la⟩ := oc_node Qa.le oa'
      obtain ⟨eb, lb⟩ := oc_node Qb.le ob'
      rw [ea, eb, show (512 : Int32) = nI 512 from rfl, nI_add, nI_1]
      have hn2 : oN (mrun trb (some 0) (u' j ++ [c])) + 512 + 1 = oN (mrun trb (some 0) (u' j ++ [c])) + 513 := by omega
      rw [hn2]
      refine q_tie (PR' := PRf tra trb (P' + 1) (fun i => if i = P' then u' j ++ [c] else u' i)) hU (by omega) (by omega) (fun φ hφ => ⟨fun i hi => ?_, ?_⟩) (fun hsame ld2 lN2 U2 => ⟨fun _ => ?_, fun z => absurd rfl z⟩) (fun hne ld2 lN2 rho2 rk2 U2 => ⟨fun z => absurd z (by decide), fun _ => ?_⟩)
      · have := hφ i (by omega)
        dsimp only at this
        rw [if_neg (by omega)] at this
        exact this
      · have := hφ P' (by omega)
        dsimp only at this
        rw [if_pos rfl] at this
        exact this
      · -- tied already
        refine hk (P', u', le', ri', ld2, be', lt') ⟨hPP, hI.cq, hI.le, hI.ri, hI.inc, hI.nt, fun i hi hjp => ?_, fun i c' hi hc' hlt => ?_, lN2, rho, rk, U2⟩
        · have := hI.lst i hi hjp
          dsimp only
          rw [cd_snoc] at this ⊢
          omega
        · rcases hlt with z | ⟨rfl, z⟩
          · exact hI.pr i c' hi hc' (Or.inl z)
          · by_cases y : c' = c
            · subst y
              refine Or.inr (fun v hv ht => ?_)
              apply Classical.byContradiction
              intro hno
              have hall : PRf tra trb P' u' (phi tra wa trb wb v) := fun k hk => by
                rw [phi_tell Qa Qb ha0 hb0 (hI.cq.w6 k hk)]
                intro q
                exact hno ⟨k, hk, hI.lst k hk hjP, q⟩
              have := hU.cl _ hall _ _ (by omega) (by omega) hsame
              rw [phi_tell Qa Qb ha0 hb0 hw'] at this
              exact this ht
            · exact hI.pr i c' hi hc' (Or.inr ⟨rfl, by omega⟩)
      · refine ⟨hP7, hP7, hP7, hP7, ?_⟩
        rw [nI_clamp (n := P') (by omega), nI_1]
        refine hk (P' + 1, (fun i => if i = P' then u' j ++ [c] else u' i), upd le' P' (oc (mrun tra (some 0) (u' j ++ [c]))), upd ri' P' (oc (mrun trb (some 0) (u' j ++ [c]))), ld2, upd be' P' (nI j), upd lt' P' (nI c)) ⟨by dsimp only; omega, hQn, fun i hi => ?_, fun i hi => ?_, fun i q hiq hq => ?_, fun i hi => ?_, fun i hi hjp => ?_, fun i c' hi hc' hlt => ?_, lN2, rho2, rk2, U2⟩
        · dsimp only at hi ⊢
          by_cases y : i = P'
          · subst y; rw [pk_us, if_pos rfl]
          · rw [pk_un y, if_neg y]; exact hI.le i (by omega)
        · dsimp only at hi ⊢
          by_cases y : i = P'
          · subst y; rw [pk_us, if_pos rfl]
          · rw [pk_un y, if_neg y]; exact hI.ri i (by omega)
        · dsimp only at hq ⊢
          rw [if_neg (show ¬ i = P' by omega)]
          by_cases y : q = P'
          · subst y; rw [if_pos rfl]; exact hI.lst i (by omega) hjP
          · rw [if_neg y]; exact hI.inc i q hiq (by omega)
        · dsimp only at hi ⊢
          by_cases y : i = P'
          · subst y; rw [if_pos rfl]; exact hnt
          · rw [if_neg y]; exact hI.nt i (by omega)
        · dsimp only at hi hjp ⊢
          rw [if_neg (show ¬ j = P' by omega)]
          by_cases y : i = P'
          · subst y; rw [if_pos rfl, cd_snoc, cd_snoc]; omega
          · rw [if_neg y]
            have := hI.lst i (by omega) hjP
            rw [cd_snoc] at this ⊢
            omega
        · dsimp only at hi ⊢
          have hij : i < P' := by omega
          rw [if_neg (show ¬ i = P' by omega)]
          by_cases y : i = j ∧ c' = c
          · obtain ⟨rfl, rfl⟩ := y
            exact Or.inl ⟨P', by omega, by rw [if_pos rfl]⟩
          · rcases hI.pr i c' hij hc' (by omega) with ⟨q, hq, e⟩ | hv
            · exact Or.inl ⟨q, by omega, by rw [if_neg (by omega)]; exact e⟩
            · refine Or.inr (fun v hv6 ht => ?_)
              obtain ⟨q, hq, e1, e2⟩ := hv v hv6 ht
              exact ⟨q, by omega, by rw [if_neg (by omega)]; exact e1, by rw [if_neg (by omega)]; exact e2⟩
    have hfin : ∀ x y : Int32, ((x = y) → ¬ tellq tra wa trb wb (some 0) (some 0) (u' j ++ [c])) → (¬ x = y → tellq tra wa trb wb (some 0) (some 0) (u' j ++ [c])) → (x = y → p_Comparison_tie ld' (oc (mrun tra (some 0) (u' j ++ [c])) + 1) (((oc (mrun trb (some 0) (u' j ++ [c])) + 1) + 512) + 1) (fun r u1 => (r = 0 → p_Comparison_findsDifference_3 na fwa (6 * na) faa nb fwb (6 * nb) fab (nI j) post k (nI (c + 1)) (nI P') le' ri' u1 be' lt') ∧ (¬ r = 0 → p_Comparison_add (nI P') le' ri' be' lt' (oc (mrun tra (some 0) (u' j ++ [c]))) (oc (mrun trb (some 0) (u' j ++ [c]))) (nI j) (nI c) (fun a1 a2 a3 a4 a5 => p_Comparison_findsDifference_3 na fwa (6 * na) faa nb fwb (6 * nb) fab (nI j) post k (nI (c + 1)) a1 a2 a3 u1 a4 a5)))) ∧ (¬ x = y → p_Comparison_add (nI P') le' ri' be' lt' (oc (mrun tra (some 0) (u' j ++ [c]))) (oc (mrun trb (some 0) (u' j ++ [c]))) (nI j) (nI c) (fun a1 a2 a3 a4 a5 => post 1 a1 a2 a3 ld' a4 a5)) := fun x y e1 e2 => by
      refine ⟨fun z => hbody (e1 z), fun z => ⟨hP7, hP7, hP7, hP7, ?_⟩⟩
      rw [nI_clamp (n := P') (by omega), nI_1]
      exact hdiff (e2 z)
    have ht : tellq tra wa trb wb (some 0) (some 0) (u' j ++ [c]) ↔ ¬ (mw wa (mrun tra (some 0) (u' j ++ [c])) ↔ mw wb (mrun trb (some 0) (u' j ++ [c]))) := Iff.rfl
    refine q_hasWO Qa oa' (fun za => q_hasWO Qb ob' (fun zb => hfin 0 0 ?_ ?_) (fun zb => hfin 0 1 ?_ ?_)) (fun za => q_hasWO Qb ob' (fun zb => hfin 1 0 ?_ ?_) (fun zb => hfin 1 1 ?_ ?_))
    · intro _; rw [ht]; exact fun q => q ⟨fun y => absurd y za, fun y => absurd y zb⟩
    · intro z; exact absurd rfl z
    · intro z; exact absurd z (by decide)
    · intro _; rw [ht]; exact fun q => za (q.mpr zb)
    · intro z; exact absurd z (by decide)
    · intro _; rw [ht]; exact fun q => zb (q.mp za)
    · intro _; rw [ht]; exact fun q => q ⟨fun _ => zb, fun _ => za⟩
    · intro z; exact absurd rfl z
theorem q_compare {na nb : Nat} {faa fwa fab fwb : Nat → Int32} {tra trb : Nat → Nat → Option Nat} {wa wb : Nat → Prop} (Qa : QM na faa fwa tra wa) (Qb : QM nb fab fwb trb wb) (ha0 : 0 < na) (hb0 : 0 < nb) (hw0 : ¬ tellq tra wa trb wb (some 0) (some 0) []) {pairs len : Int32} {ld le ri be lt : Nat → Int32} {post : Int32 → Int32 → (Nat → Int32) → (Nat → Int32) → (Nat → Int32) → (Nat → Int32) → (Nat → Int32) → Prop}
    (hp : ∀ pairs' len' ld' le' ri' be' lt', CR tra wa trb wb pairs' len' be' lt' → post pairs' len' ld' le' ri' be' lt') : p_Comparison_compare pairs len ld le ri be lt na fwa (6 * na) faa nb fwb (6 * nb) fab post := by
  refine pk_loop (fun k i ld => p_Comparison_compare_2 na fwa (6 * na) faa nb fwb (6 * nb) fab post k (nI i) pairs len ld le ri be lt) (fun i ld => ∀ x, x < i → ld x = nI x) 1026 0 ld (Nat.zero_le _) (fun x hx => absurd hx (Nat.not_lt_zero _)) ?_ ?_
  · intro k ld hld
    refine ⟨fun _ => ?_, fun z => absurd (by decide) z⟩
    have hU0 : UF 0 ld id id (fun _ => 0) (fun _ => True) := by
      refine ⟨fun x hx => ⟨hld x hx, hx⟩, fun x hx => ⟨hx, rfl⟩, fun x hx => rfl, fun x hx _ => rfl, fun x hx q => absurd rfl q, fun x hx => Nat.le_refl _, ?_, fun φ _ x y hx hy e => by
        have : x = y := e
        rw [this]⟩
      have : ∀ m, sumF (fun x => if id x = x then 1 else 0) m = m := by
        intro m
        induction m with
        | zero => rfl
        | succ m ih => unfold sumF; rw [ih, if_pos (show id m = m from rfl)]
      rw [this]
    have h1 : (0 : Int32) + 1 = nI 1 := by decide
    have h2 : ((0 : Int32) + 1) + 512 + 1 = nI 514 := by decide
    unfold p_Comparison_compare_22 p_Comparison_leftNode p_Comparison_rightNode
    rw [h2, h1]
    refine q_tie (a := 1) (b := 514) (PR' := PRf tra trb 1 (fun _ => [])) hU0 (by omega) (by omega) (fun φ hφ => ⟨trivial, hφ 0 (by omega)⟩) (fun e => absurd (show (1 : Nat) = 514 from e) (by omega)) (fun _ ld2 lN2 rho2 rk2 U2 => ?_)
    have h07 : vp_in (0 : Int32) 1027 := vp_in_nI (n := 0) (by omega) (by omega)
    refine ⟨h07, h07, h07, h07, 1028, ?_⟩
    have c0 : (0 : Int32).toNatClampNeg = 0 := by decide
    rw [c0, h1]
    -- the walk over the pairs
    have key : ∀ (d j P : Nat) (u : Nat → List Nat) (le ri ld be lt : Nat → Int32), j + d = 1027 → j ≤ P → 0 < P → CI tra wa trb wb j 0 P u le ri ld be lt → p_Comparison_compare_55 na fwa (6 * na) faa nb fwb (6 * nb) fab post (d + 1) (nI j) (nI P) (-1) ld le ri be lt := by
      intro d
      induction d with
      | zero =>
        intro j P u le ri ld be lt hd hjP hP hI
        obtain ⟨lN, rho, rk, hU⟩ := hI.uf
        have := hU.lt
        omega
      | succ d ih =>
        intro j P u le ri ld be lt hd hjP hP hI
        obtain ⟨lN, rho, rk, hU⟩ := hI.uf
        have hT := hU.lt
        by_cases hlt : j < P
        · refine ⟨fun z => absurd z (nI_ge hlt (by omega)), fun _ => ⟨fun z => absurd z (nI_ge (b := 1027) (by omega) (by omega)), fun _ => ?_⟩⟩
          refine q_findsD Qa Qb ha0 hb0 hlt hI (fun P' u' le' ri' ld' be' lt' hPP hI' => ⟨fun _ => ?_, fun z => absurd rfl z⟩) (fun P' u' le' ri' ld' be' lt' hP6 hQ ht hm => ⟨fun z => absurd z (by decide), fun _ => ?_⟩)
          · rw [nI_1]
            exact ih (j + 1) P' u' le' ri' ld' be' lt' (by omega) (by omega) (by omega) hI'
          · refine q_lengthOfLast hQ (by omega) (by omega) ?_
            exact hp _ _ _ _ _ _ _ ⟨P' + 1, u', by omega, by omega, rfl, hQ, Or.inr ⟨rfl, ht, hm⟩⟩
        · have e : j = P := by omega
          subst e
          refine ⟨fun _ => ?_, fun z => absurd (nI_le (Nat.le_refl _) (by omega)) z⟩
          refine hp _ _ _ _ _ _ _ ⟨j, u, hP, by omega, rfl, hI.cq, Or.inl ⟨rfl, fun w hw => ?_⟩⟩
          exact least hI.cq hP (fun _ => True) (fun _ _ _ _ => trivial) hI.nt (fun i c' hi hc' _ => hI.pr i c' hi hc' (Or.inl hi)) w hw trivial
    refine key 1027 0 1 (fun _ => []) _ _ _ _ _ (by omega) (by omega) (by omega) ⟨⟨rfl, fun i _ c hc => absurd hc (List.not_mem_nil), fun i h0 hi => by omega⟩, fun i hi => ?_, fun i hi => ?_, fun i q h0 hi => by omega, fun i hi => hw0, fun i hi _ => ?_, fun i c' hi hc' hlt => ?_, lN2, rho2, rk2, U2⟩
    · have : i = 0 := by omega
      subst this; rw [pk_us]; rfl
    · have : i = 0 := by omega
      subst this; rw [pk_us]; rfl
    · rw [cd_snoc]; show 0 < _; omega
    · omega
  · intro k i ld hi hI hk
    refine ⟨fun z => absurd z (nI_ge (b := 1026) hi (by omega)), fun _ => ⟨vp_in_nI hi (by omega), ?_⟩⟩
    rw [nI_clamp (n := i) (by omega), nI_1]
    refine hk _ (fun x hx => ?_)
    by_cases e : x = i
    · subst e; rw [pk_us]
    · rw [pk_un e]; exact hI x (by omega)