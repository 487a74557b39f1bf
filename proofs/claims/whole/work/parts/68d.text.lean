/-! The program's reader: read -/
def Pool (LP : List Nat) (PF : Nat → Pc) (noW emW : Nat) : Prop := (noW ∈ LP ∧ PF noW = (0, 0, 0)) ∧ (emW ∈ LP ∧ PF emW = (0, 0, 1))
def Zr (z : Option ZS) (op fr ot da na fm : Int32) : Prop := match z with
  | none => op = 0
  | some z => op = 1 ∧ fr = z.1 ∧ ot = z.2.1 ∧ da = z.2.2.1 ∧ na = z.2.2.2.1 ∧ fm = z.2.2.2.2
theorem nIc {b k : Nat} (hb : b < 256) (hk : k < 256) : nI b = nI k ↔ b = k := nI_eq (by omega) (by omega)
theorem q_canStand {S : TS} {noW emW : Nat} {dp pl : Int32} {ch sq pt : Nat → Option Nat} {fo lt : Nat → Int32} {LP : List Nat} {PF : Nat → Pc} (h : CTx S noW emW dp pl ch sq pt fo lt LP PF) (hq : S.q < 24) {b : Nat} (hb : b < 256) {fr ot da na fm : Int32} {post : _}
    (h0 : stepN S b = none → ∀ dp' pl' ch' sq' pt' fo' lt' op' fr' ot' da' na' fm' LP' PF', Pool LP' PF' noW emW → post 0 dp' pl' ch' sq' pt' fo' lt' op' fr' ot' da' na' fm' LP' PF')
    (h1 : ∀ S' z', stepN S b = some (S', z') → ∀ dp' pl' ch' sq' pt' fo' lt' op' fr' ot' da' na' fm' LP' PF', CTx S' noW emW dp' pl' ch' sq' pt' fo' lt' LP' PF' → Zr z' op' fr' ot' da' na' fm' → post 1 dp' pl' ch' sq' pt' fo' lt' op' fr' ot' da' na' fm' LP' PF') :
    p_RuleText_canStand noW emW dp pl ch sq pt fo lt 0 fr ot da na fm LP PF (nI b) post := by
  have hP : Pool LP PF noW emW := ⟨h.noW, h.emW⟩
  have b0 : bz 0 := Or.inl rfl
  have b1 : bz 1 := Or.inr rfl
  have hrep : (b = 42 ∨ b = 43 ∨ b = 63) → p_RuleText_repeatPart dp pl pt fo LP PF (nI b) (fun r u1 u2 u3 u4 => bz r ∧ post r dp pl ch sq u1 u2 lt 0 fr ot da na fm u3 u4) := fun hc => by
    have hst0 : S.pt S.d = none → stepN S b = none := fun e => by
      unfold stepN
      rw [if_neg (by omega), if_neg (by omega), if_neg (by omega), if_neg (by omega), if_neg (by omega), if_pos hc, e]
    have hst1 : ∀ P, S.pt S.d = some P → stepN S b = some (repT S P (decide (b = 43)) (decide (b = 63)), none) := fun P e => by
      unfold stepN
      rw [if_neg (by omega), if_neg (by omega), if_neg (by omega), if_neg (by omega), if_neg (by omega), if_pos hc, e]
    have d43 : decide (nI b = 43) = decide (b = 43) := decide_eq_decide.mpr (nIc (k := 43) hb (by omega))
    have d63 : decide (nI b = 63) = decide (b = 63) := decide_eq_decide.mpr (nIc (k := 63) hb (by omega))
    refine q_repeat h (by omega) (fun e _ _ => ⟨b0, h0 (hst0 e) _ _ _ _ _ _ _ _ _ _ _ _ _ _ _ hP⟩) (fun P e pt' fo' LP' PF' hC => ⟨b1, h1 _ none (hst1 P e) _ _ _ _ _ _ _ _ _ _ _ _ _ _ _ ?_ rfl⟩)
    rw [d43, d63] at hC
    exact hC
  have c40 := nIc (k := 40) hb (by omega)
  have c41 := nIc (k := 41) hb (by omega)
  have c42 := nIc (k := 42) hb (by omega)
  have c43 := nIc (k := 43) hb (by omega)
  have c46 := nIc (k := 46) hb (by omega)
  have c63 := nIc (k := 63) hb (by omega)
  have c91 := nIc (k := 91) hb (by omega)
  have c124 := nIc (k := 124) hb (by omega)
  refine ⟨fun z => ?_, fun z => ?_, fun z => hrep (Or.inl (c42.mp z)), fun z => hrep (Or.inr (Or.inl (c43.mp z))), fun z => ?_, fun z => hrep (Or.inr (Or.inr (c63.mp z))), fun z => ?_, fun z => ?_, fun z1 z2 z3 z4 z5 z6 z7 z8 => ?_⟩
  · have e := c40.mp z
    have hst : stepN S b = (if S.d < 4 then some (openT S, none) else none) := by
      unfold stepN
      rw [if_neg (by omega), if_neg (by omega), if_pos e]
    exact q_openGroup h (fun hd _ _ _ _ => ⟨b0, h0 (by rw [hst, if_neg hd]) _ _ _ _ _ _ _ _ _ _ _ _ _ _ _ hP⟩) (fun hd dp' ch' sq' pt' hC => ⟨b1, h1 _ none (by rw [hst, if_pos hd]) _ _ _ _ _ _ _ _ _ _ _ _ _ _ _ hC rfl⟩)
  · have e := c41.mp z
    have hst : stepN S b = (if S.d = 0 ∨ S.pt S.d = none then none else some (closeT S, none)) := by
      unfold stepN
      rw [if_neg (by omega), if_neg (by omega), if_neg (by omega), if_pos e]
    exact q_closeGroup h (by omega) (fun hd _ _ _ _ _ => ⟨b0, h0 (by rw [hst, if_pos hd]) _ _ _ _ _ _ _ _ _ _ _ _ _ _ _ hP⟩) (fun hd hp dp' pt' sq' fo' ch' LP' PF' hC => ⟨b1, h1 _ none (by rw [hst, if_neg (fun q => q.elim hd hp)]) _ _ _ _ _ _ _ _ _ _ _ _ _ _ _ hC rfl⟩)
  · have e := c46.mp z
    have hst : stepN S b = some (placeT S 63, none) := by
      unfold stepN
      rw [if_pos e]
    exact q_addPlace h hq (fun pl' lt' fo' pt' sq' LP' PF' hC => h1 _ none hst _ _ _ _ _ _ _ _ _ _ _ _ _ _ _ hC rfl)
  · have e := c91.mp z
    have hst : stepN S b = some (S, some (1, 0, 0, 0, -1)) := by
      unfold stepN
      rw [if_neg (by omega), if_pos e]
    exact h1 _ (some (1, 0, 0, 0, -1)) hst _ _ _ _ _ _ _ _ _ _ _ _ _ _ _ h ⟨rfl, rfl, rfl, rfl, rfl, rfl⟩
  · have e := c124.mp z
    have hst : stepN S b = (if S.pt S.d = none then none else some (endT S, none)) := by
      unfold stepN
      rw [if_neg (by omega), if_neg (by omega), if_neg (by omega), if_neg (by omega), if_pos e]
    exact q_endSeq h (by omega) (fun hn => ⟨b0, h0 (by rw [hst, if_pos hn]) _ _ _ _ _ _ _ _ _ _ _ _ _ _ _ hP⟩) (fun hn pt' sq' fo' ch' LP' PF' hC => ⟨b1, h1 _ none (by rw [hst, if_neg hn]) _ _ _ _ _ _ _ _ _ _ _ _ _ _ _ hC rfl⟩)
  · have n1 : b ≠ 40 := fun q => z1 (c40.mpr q)
    have n2 : b ≠ 41 := fun q => z2 (c41.mpr q)
    have n3 : b ≠ 42 := fun q => z3 (c42.mpr q)
    have n4 : b ≠ 43 := fun q => z4 (c43.mpr q)
    have n5 : b ≠ 46 := fun q => z5 (c46.mpr q)
    have n6 : b ≠ 63 := fun q => z6 (c63.mpr q)
    have n7 : b ≠ 91 := fun q => z7 (c91.mpr q)
    have n8 : b ≠ 124 := fun q => z8 (c124.mpr q)
    have hst : stepN S b = (if 97 ≤ b ∧ b ≤ 102 then some (placeT S ((1 : Int32) <<< (nI (b - 97) &&& 31)), none) else none) := by
      unfold stepN
      rw [if_neg n5, if_neg n7, if_neg n1, if_neg n2, if_neg n8, if_neg (by omega)]
    refine q_RT_isLetter hb (fun (hl : 97 ≤ b ∧ b ≤ 102) => ⟨fun _ => ?_, fun q => absurd q (by decide)⟩) (fun (hl : ¬ (97 ≤ b ∧ b ≤ 102)) => ⟨fun q => absurd rfl q, fun _ => ⟨b0, h0 (by rw [hst, if_neg hl]) _ _ _ _ _ _ _ _ _ _ _ _ _ _ _ hP⟩⟩)
    rw [(chr97 hb).1 hl.1]
    exact q_addPlace h hq (fun pl' lt' fo' pt' sq' LP' PF' hC => ⟨b1, h1 _ none (by rw [hst, if_pos hl]) _ _ _ _ _ _ _ _ _ _ _ _ _ _ _ hC rfl⟩)
theorem q_canStandZ {S : TS} {noW emW : Nat} {dp pl : Int32} {ch sq pt : Nat → Option Nat} {fo lt : Nat → Int32} {LP : List Nat} {PF : Nat → Pc} (h : CTx S noW emW dp pl ch sq pt fo lt LP PF) (hq : S.q < 24) {b : Nat} (hb : b < 256) {z : ZS} (hz : ZOk z) {post : _}
    (h0 : stepZ S z b = none → ∀ pl' op' fr' ot' da' na' fm' lt' fo' pt' sq' LP' PF', Pool LP' PF' noW emW → post 0 pl' op' fr' ot' da' na' fm' lt' fo' pt' sq' LP' PF')
    (h1 : ∀ S' z', stepZ S z b = some (S', z') → ∀ pl' op' fr' ot' da' na' fm' lt' fo' pt' sq' LP' PF', CTx S' noW emW dp pl' ch sq' pt' fo' lt' LP' PF' → Zr z' op' fr' ot' da' na' fm' → post 1 pl' op' fr' ot' da' na' fm' lt' fo' pt' sq' LP' PF') :
    p_RuleText_canStandInSet dp pl 1 z.1 z.2.1 z.2.2.1 z.2.2.2.1 z.2.2.2.2 lt fo pt sq LP PF (nI b) post := by
  have hP : Pool LP PF noW emW := ⟨h.noW, h.emW⟩
  have b0 : bz 0 := Or.inl rfl
  have b1 : bz 1 := Or.inr rfl
  have c45 := nIc (k := 45) hb (by omega)
  have c93 := nIc (k := 93) hb (by omega)
  have c94 := nIc (k := 94) hb (by omega)
  refine ⟨fun y => ?_, fun y => ?_, fun y => ?_, fun z1 z2 z3 => ?_⟩
  · have e := c45.mp y
    have hst : stepZ S z b = (if z.2.2.2.2 = -1 ∨ ¬ z.2.2.1 = 0 then none else some (S, some (z.1, z.2.1, 1, z.2.2.2.1, z.2.2.2.2))) := by
      unfold stepZ
      rw [if_neg (by omega), if_pos e]
    refine ⟨fun q => ⟨b0, h0 (by rw [hst, if_pos (Or.inl q)]) _ _ _ _ _ _ _ _ _ _ _ _ _ hP⟩, fun q => ⟨fun w => ⟨b0, h0 (by rw [hst, if_pos (Or.inr w)]) _ _ _ _ _ _ _ _ _ _ _ _ _ hP⟩, fun w => ⟨b1, h1 _ (some (z.1, z.2.1, 1, z.2.2.2.1, z.2.2.2.2)) (by rw [hst, if_neg (fun v => v.elim q (fun u => u w))]) _ _ _ _ _ _ _ _ _ _ _ _ _ h ⟨rfl, rfl, rfl, rfl, rfl, rfl⟩⟩⟩⟩
  · have e := c93.mp y
    have hst : stepZ S z b = (if z.2.2.2.1 = 0 ∨ ¬ z.2.2.1 = 0 ∨ lsO z.2.1 z.2.2.2.1 = 0 then none else some (placeT S (lsO z.2.1 z.2.2.2.1), none)) := by
      unfold stepZ
      rw [if_neg (by omega), if_neg (by omega), if_pos e]
    have hls : ∀ (K : Int32 → Prop), K (lsO z.2.1 z.2.2.2.1) → p_LetterSet_letters z.2.1 z.2.2.2.1 K := fun K hK => by
      unfold lsO at hK
      refine ⟨fun q => ?_, fun q => ?_⟩
      · rw [if_pos q] at hK; exact hK
      · rw [if_neg q] at hK; exact hK
    have hno : ∀ X : Prop, (z.2.2.2.1 = 0 ∨ ¬ z.2.2.1 = 0 ∨ lsO z.2.1 z.2.2.2.1 = 0) → ((¬ (0 : Int32) = 0 → X) ∧ ((0 : Int32) = 0 → post 0 pl 1 z.1 z.2.1 z.2.2.1 z.2.2.2.1 z.2.2.2.2 lt fo pt sq LP PF)) := fun X q => ⟨fun w => absurd rfl w, fun _ => h0 (by rw [hst, if_pos q]) _ _ _ _ _ _ _ _ _ _ _ _ _ hP⟩
    refine ⟨fun q => hno _ (Or.inl q), fun q => ⟨fun w => hno _ (Or.inr (Or.inl w)), fun w => hls _ ⟨fun v => hno _ (Or.inr (Or.inr v)), fun v => ⟨fun _ => ?_, fun u => absurd u (by decide)⟩⟩⟩⟩
    unfold p_LetterSet_close
    refine hls _ ?_
    exact q_addPlace h hq (fun pl' lt' fo' pt' sq' LP' PF' hC => h1 _ none (by rw [hst, if_neg (fun u => u.elim q (fun u2 => u2.elim (fun u3 => u3 w) v))]) _ _ _ _ _ _ _ _ _ _ _ _ _ hC rfl)
  · have e := c94.mp y
    have hst : stepZ S z b = (if z.1 = 0 then none else some (S, some (0, 1, z.2.2.1, z.2.2.2.1, z.2.2.2.2))) := by
      unfold stepZ
      rw [if_pos e]
    rcases hz.f with q | q
    · have := h0 (by rw [hst, if_pos q])
      refine ⟨hz.f, hz.f, ?_⟩
      rw [q]
      exact this _ _ _ _ _ _ _ _ _ _ _ _ _ hP
    · have := h1 S (some (0, 1, z.2.2.1, z.2.2.2.1, z.2.2.2.2)) (by rw [hst, if_neg (by rw [q]; decide)])
      refine ⟨hz.f, hz.f, ?_⟩
      rw [q]
      exact this _ _ _ _ _ _ _ _ _ _ _ _ _ h ⟨rfl, rfl, rfl, rfl, rfl, rfl⟩
  · have n1 : b ≠ 45 := fun q => z1 (c45.mpr q)
    have n2 : b ≠ 93 := fun q => z2 (c93.mpr q)
    have n3 : b ≠ 94 := fun q => z3 (c94.mpr q)
    by_cases hl : 97 ≤ b ∧ b ≤ 102
    · have hst : stepZ S z b = (if z.2.2.1 = 0 then some (S, some (0, z.2.1, z.2.2.1, z.2.2.2.1 ||| ((1 : Int32) <<< (nI (b - 97) &&& 31)), nI (b - 97))) else (if nI (b - 97) < z.2.2.2.2 then none else some (S, some (0, z.2.1, 0, rgN z.2.2.2.1 z.2.2.2.2.toNatClampNeg (b - 97 + 1 - z.2.2.2.2.toNatClampNeg), -1)))) := by
        unfold stepZ
        rw [if_neg n3, if_neg n1, if_neg n2, if_pos hl]
      refine q_RT_isLetter hb (fun _ => ⟨fun q => absurd q (by decide), fun _ => ?_⟩) (fun q => absurd hl q)
      rw [(chr97 hb).1 hl.1]
      refine q_setLetter hz (by omega) (fun hd => ⟨fun q => absurd q (by decide), fun _ => h1 S (some (0, z.2.1, z.2.2.1, z.2.2.2.1 ||| ((1 : Int32) <<< (nI (b - 97) &&& 31)), nI (b - 97))) (by rw [hst, if_pos hd]) _ _ _ _ _ _ _ _ _ _ _ _ _ h ⟨rfl, rfl, rfl, rfl, rfl, rfl⟩⟩) (fun hd hf => ⟨fun q => absurd q (by decide), fun _ => h1 S (some (0, z.2.1, 0, rgN z.2.2.2.1 z.2.2.2.2.toNatClampNeg (b - 97 + 1 - z.2.2.2.2.toNatClampNeg), -1)) (by rw [hst, if_neg hd, if_neg hf]) _ _ _ _ _ _ _ _ _ _ _ _ _ h ⟨rfl, rfl, rfl, rfl, rfl, rfl⟩⟩) (fun hd hf _ _ _ _ => ⟨fun _ => h0 (by rw [hst, if_neg hd, if_pos hf]) _ _ _ _ _ _ _ _ _ _ _ _ _ hP, fun q => absurd rfl q⟩)
    · have hst : stepZ S z b = none := by
        unfold stepZ
        rw [if_neg n3, if_neg n1, if_neg n2, if_neg hl]
      exact q_RT_isLetter hb (fun q => absurd q hl) (fun _ => ⟨fun _ => h0 hst _ _ _ _ _ _ _ _ _ _ _ _ _ hP, fun q => absurd rfl q⟩)
/-- nothing has been read -/
def TS0 : TS := TS.mk 0 0 (fun _ => 0) (fun _ => 0) (fun _ => (0, 0, 0)) (fun _ => (0, 0, 1)) (fun _ => none)
theorem q_read {noW emW : Nat} {LP : List Nat} {PF : Nat → Pc} (hP : Pool LP PF noW emW) {tp : Nat → Nat} {t : Nat} (ht : t ≤ 24) {tape : Nat → Int32} (htp : ∀ i, i < t → tape i = nI (tp i) ∧ tp i < 256) {fr ot da na fm : Int32} {ch sq pt : Nat → Option Nat} {fo lt : Nat → Int32} {post : _}
    (h0 : ∀ i, rdT tp t t 0 TS0 none = (i, none) → ∀ dp' pl' op' fr' ot' da' na' fm' ch' sq' pt' fo' lt' LP' PF', Pool LP' PF' noW emW → post (nI i) dp' pl' op' fr' ot' da' na' fm' ch' sq' pt' fo' lt' LP' PF')
    (h1 : ∀ S', rdT tp t t 0 TS0 none = (t, some S') → ∀ dp' pl' op' fr' ot' da' na' fm' ch' sq' pt' fo' lt' LP' PF', S'.q ≤ t → CTx S' noW emW dp' pl' ch' sq' pt' fo' lt' LP' PF' → post (-1) dp' pl' op' fr' ot' da' na' fm' ch' sq' pt' fo' lt' LP' PF') :
    p_RuleText_read noW emW fr ot da na fm ch sq pt 24 tape fo lt LP PF (nI t) post := by
  have fin : ∀ S z dp pl op fr ot da na fm ch sq pt fo lt LP PF, S.q ≤ t → rdT tp t t 0 TS0 none = rdT tp t 0 t S z → CTx S noW emW dp pl ch sq pt fo lt LP PF → Zr z op fr ot da na fm → p_RuleText_read_72 emW (nI t) post dp pl op fr ot da na fm ch sq pt fo lt LP PF := by
    intro S z dp pl op fr ot da na fm ch sq pt fo lt LP PF hqt hr hC hZ
    have hrd : rdT tp t 0 t S z = (if z = none ∧ S.d = 0 ∧ S.pt 0 ≠ none then (t, some (endT S)) else (t, none)) := rfl
    have hd4 := hC.d4
    cases z with
    | some z =>
      have hop : op = 1 := hZ.1
      refine ⟨Or.inr hop, fun _ => h0 t ?_ _ _ _ _ _ _ _ _ _ _ _ _ _ _ _ ⟨hC.noW, hC.emW⟩, fun y => ?_⟩
      · rw [hr, hrd, if_neg (fun q => by cases q.1)]
      · rw [hop] at y; exact absurd y (by decide)
    | none =>
      have hop : op = 0 := hZ
      refine ⟨Or.inl hop, fun y => absurd hop y, fun _ => ⟨fun y => h0 t ?_ _ _ _ _ _ _ _ _ _ _ _ _ _ _ _ ⟨hC.noW, hC.emW⟩, fun y => ?_⟩⟩
      · rw [hr, hrd, if_neg (fun q => y (by rw [hC.dp, q.2.1]; rfl))]
      · have hd : S.d = 0 := by
          rw [hC.dp] at y
          exact (nI_eq (b := 0) (by omega) (by omega)).mp y
        refine q_endSeq hC (by omega) (fun hn => ⟨fun _ => h0 t ?_ _ _ _ _ _ _ _ _ _ _ _ _ _ _ _ ⟨hC.noW, hC.emW⟩, fun q => absurd rfl q⟩) (fun hn pt' sq' fo' ch' LP' PF' hC' => ⟨fun q => absurd q (by decide), fun _ => h1 (endT S) ?_ _ _ _ _ _ _ _ _ _ _ _ _ _ _ _ (by show (joinT S).q ≤ t; rw [join_q]; exact hqt) hC'⟩)
        · rw [hd] at hn
          rw [hr, hrd, if_neg (fun q => q.2.2 hn)]
        · rw [hd] at hn
          rw [hr, hrd, if_pos ⟨rfl, hd, hn⟩]
  have key : ∀ (d i : Nat) (S : TS) (z : Option ZS) dp pl op fr ot da na fm ch sq pt fo lt LP PF (n : Nat), i + d = t → d ≤ n → S.q ≤ i → (∀ w, z = some w → ZOk w) → rdT tp t t 0 TS0 none = rdT tp t d i S z → CTx S noW emW dp pl ch sq pt fo lt LP PF → Zr z op fr ot da na fm → p_RuleText_read_19 noW emW 24 tape (nI t) post (n + 1) (nI i) dp pl op fr ot da na fm ch sq pt fo lt LP PF := by
    intro d
    induction d with
    | zero =>
      intro i S z dp pl op fr ot da na fm ch sq pt fo lt LP PF n hi hn hq hzk hr hC hZ
      have e : i = t := by omega
      subst e
      exact ⟨fun _ => fin S z dp pl op fr ot da na fm ch sq pt fo lt LP PF hq hr hC hZ, fun y => absurd (nI_le (Nat.le_refl _) (by omega)) y⟩
    | succ d ih =>
      intro i S z dp pl op fr ot da na fm ch sq pt fo lt LP PF n hi hn hq hzk hr hC hZ
      obtain ⟨n, rfl⟩ : ∃ m, n = m + 1 := ⟨n - 1, by omega⟩
      obtain ⟨e1, e2⟩ := htp i (by omega)
      have hiv : vp_in (nI i) 24 := vp_in_nI (by omega) (by omega)
      have hrd : rdT tp t (d + 1) i S z = (match stepT S z (tp i) with
        | none => (i, none)
        | some (S', z') => rdT tp t d (i + 1) S' z') := rfl
      refine ⟨fun y => absurd y (nI_ge (by omega) (by omega)), fun _ => ⟨fun y => absurd y (nI_ge (b := 24) (by omega) (by omega)), fun _ => ?_⟩⟩
      cases z with
      | none =>
        have hop : op = 0 := hZ
        subst hop
        refine ⟨Or.inl rfl, fun _ => ⟨hiv, ?_⟩, fun y => absurd rfl y⟩
        rw [nI_clamp (n := i) (by omega), e1, nI_1]
        refine q_canStand hC (by omega) e2 (fun hn0 dp' pl' ch' sq' pt' fo' lt' op' fr' ot' da' na' fm' LP' PF' hP' => ⟨fun y => absurd rfl y, fun _ => h0 i ?_ _ _ _ _ _ _ _ _ _ _ _ _ _ _ _ hP'⟩) (fun S' z' hs dp' pl' ch' sq' pt' fo' lt' op' fr' ot' da' na' fm' LP' PF' hC' hZ' => ⟨fun _ => ?_, fun y => absurd y (by decide)⟩)
        · rw [hr, hrd]
          show (match stepN S (tp i) with | none => _ | some (S', z') => _) = _
          rw [hn0]
        · obtain ⟨q1, q2⟩ := stepN_q hs
          refine ih (i + 1) S' z' _ _ _ _ _ _ _ _ _ _ _ _ _ _ _ n (by omega) (by omega) (by omega) (fun w hw => ?_) ?_ hC' hZ'
          · unfold stepN at hs
            split at hs
            · cases hs; cases hw
            · split at hs
              · cases hs; cases hw
                exact ⟨Or.inr rfl, Or.inl rfl, Or.inl rfl, Or.inl rfl, fun y => absurd rfl y⟩
              · exfalso
                repeat' split at hs
                all_goals first | (cases hs; done) | (cases hs; cases hw; done)
          · rw [hr, hrd]
            show (match stepN S (tp i) with | none => _ | some (S', z') => _) = _
            rw [hs]
      | some z =>
        obtain ⟨hop, z1, z2, z3, z4, z5⟩ := hZ
        subst hop z1 z2 z3 z4 z5
        have hz := hzk z rfl
        refine ⟨Or.inr rfl, fun y => absurd y (by decide), fun _ => ⟨hiv, ?_⟩⟩
        rw [nI_clamp (n := i) (by omega), e1, nI_1]
        refine q_canStandZ hC (by omega) e2 hz (fun hn0 pl' op' fr' ot' da' na' fm' lt' fo' pt' sq' LP' PF' hP' => ⟨fun y => absurd rfl y, fun _ => h0 i ?_ _ _ _ _ _ _ _ _ _ _ _ _ _ _ _ hP'⟩) (fun S' z' hs pl' op' fr' ot' da' na' fm' lt' fo' pt' sq' LP' PF' hC' hZ' => ⟨fun _ => ?_, fun y => absurd y (by decide)⟩)
        · rw [hr, hrd]
          show (match stepZ S z (tp i) with | none => _ | some (S', z') => _) = _
          rw [hn0]
        · obtain ⟨q1, q2⟩ := stepZ_q hz hs
          refine ih (i + 1) S' z' _ _ _ _ _ _ _ _ _ _ _ _ _ _ _ n (by omega) (by omega) (by omega) q2 ?_ hC' hZ'
          rw [hr, hrd]
          show (match stepZ S z (tp i) with | none => _ | some (S', z') => _) = _
          rw [hs]
  have hv : vp_in (0 : Int32) 5 := vp_in_nI (n := 0) (by omega) (by omega)
  have c0 : (0 : Int32).toNatClampNeg = 0 := by decide
  unfold p_RuleText_read p_LetterSet_close p_RuleText_openLevel
  rw [c0]
  refine ⟨hv, hP.1.1, hv, hP.2.1, hv, ?_⟩
  refine key t 0 TS0 none _ _ _ _ _ _ _ _ _ _ _ _ _ _ _ 24 (by omega) (by omega) (Nat.le_refl _) (fun w hw => by cases hw) rfl ⟨by show 0 ≤ 4; omega, rfl, rfl, fun e he => ?_, fun e he => ?_, fun e he => ?_, fun p hp => absurd hp (Nat.not_lt_zero _), fun p hp => absurd hp (Nat.not_lt_zero _), hP.1, hP.2⟩ rfl
  · have : e = 0 := Nat.le_zero.mp he
    subst this; rw [vu_s]; exact ⟨noW, rfl, hP.1.1, hP.1.2⟩
  · have : e = 0 := Nat.le_zero.mp he
    subst this; rw [vu_s]; exact ⟨emW, rfl, hP.2.1, hP.2.2⟩
  · have : e = 0 := Nat.le_zero.mp he
    subst this; rw [vu_s]; rfl
