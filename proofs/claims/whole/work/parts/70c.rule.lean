/-! rule, as the face tells it; type -/
/-- a stream is under way -/
def UW (th en : Int32) : Prop := ¬ th = 0 ∧ en = 0
theorem q_underWay {th en : Int32} {post : Int32 → Prop} (h1 : UW th en → post 1) (h0 : ¬ UW th en → post 0) : p_Stream_isUnderWay th en post := ⟨fun z => h0 (fun q => q.1 z), fun z => ⟨fun y => h0 (fun q => y q.2), fun y => h1 ⟨z, y⟩⟩⟩
theorem q_ruleF {noW emW : Nat} {LP : List Nat} {PF : Nat → Pc} {tp : Nat → Nat} {t : Nat} {tape : Nat → Int32} {fr ot da na fm : Int32} {ch sq pt : Nat → Option Nat} {fo lt : Nat → Int32} {th en : Int32} {D : Nat → Md} {R : Nat} {x1 x2 : Int32} (hP : Pool LP PF noW emW) (ht : t ≤ 24) (htp : ∀ i, i < t → tape i = nI (tp i) ∧ tp i < 256) (hD : ∀ M, M < 3 → (D M).P ≤ 9) (hR : R ≤ 16) {post : _}
    (hno : ∀ S', rdT tp t t 0 TS0 none = (t, some S') → ¬ UW th en → ¬ RoomR (fun M => (D M).P) R S'.q x1 x2)
    (h0 : ∀ j, j ≤ t → rdT tp t t 0 TS0 none = (j, none) → ∀ a1 a2 a3 a4 a5 a6 a7 a8 b1 b2 b3 c1 c2 LP' PF', Pool LP' PF' noW emW → post ((-2) - nI j) 0 a1 a2 a3 a4 a5 a6 a7 a8 b1 b2 b3 c1 c2 LP' PF')
    (h1 : ∀ S', rdT tp t t 0 TS0 none = (t, some S') → ∀ a1 a2 a3 a4 a5 a6 a7 a8 b1 b2 b3 c1 c2 LP' PF', Pool LP' PF' noW emW → post (-1) 0 a1 a2 a3 a4 a5 a6 a7 a8 b1 b2 b3 c1 c2 LP' PF') :
    p_TB_ruleF (nI t) noW emW fr ot da na fm ch sq pt tape fo lt th en (nI R) (nI (D 0).P) (nI (D 1).P) (nI (D 2).P) LP PF x1 x2 post := by
  have hjt : ∀ (d i : Nat) (S : TS) (z : Option ZS) j, i + d = t → rdT tp t d i S z = (j, none) → j ≤ t := by
    intro d
    induction d with
    | zero =>
      intro i S z j hi e
      have : (if z = none ∧ S.d = 0 ∧ S.pt 0 ≠ none then (t, some (endT S)) else (t, none)) = (j, none) := e
      split at this
      · cases this
      · cases this; exact Nat.le_refl _
    | succ d ih =>
      intro i S z j hi e
      cases es : stepT S z (tp i) with
      | none => rw [rd_no es] at e; cases e; omega
      | some p =>
        obtain ⟨S', z'⟩ := p
        rw [rd_so es] at e
        exact ih (i + 1) S' z' j (by omega) e
  refine q_read hP ht htp (fun j e dp' pl' op' fr' ot' da' na' fm' ch' sq' pt' fo' lt' LP' PF' hP' => ⟨fun z => absurd z (nI_nm1 (by have := hjt t 0 TS0 none j (by omega) e; omega)), fun _ => h0 j (hjt t 0 TS0 none j (by omega) e) e _ _ _ _ _ _ _ _ _ _ _ _ _ _ _ hP'⟩) (fun S' e dp' pl' op' fr' ot' da' na' fm' ch' sq' pt' fo' lt' LP' PF' hq hC => ⟨fun _ => ?_, fun z => absurd rfl z⟩)
  refine q_underWay (fun hu => ⟨fun _ => h1 S' e _ _ _ _ _ _ _ _ _ _ _ _ _ _ _ ⟨hC.noW, hC.emW⟩, fun z => absurd z (by decide)⟩) (fun hu => ⟨fun z => absurd rfl z, fun _ => ?_⟩)
  have hpl := hC.pl
  subst hpl
  exact q_hasRoom hD hR (by omega) (fun hr => absurd hr (hno S' e hu)) (fun _ => ⟨fun z => absurd rfl z, fun _ => h1 S' e _ _ _ _ _ _ _ _ _ _ _ _ _ _ _ ⟨hC.noW, hC.emW⟩⟩)
theorem q_ruleS0 {noW emW : Nat} {LP : List Nat} {PF : Nat → Pc} {tp : Nat → Nat} {t : Nat} {tape : Nat → Int32} {fr ot da na fm : Int32} {ch sq pt : Nat → Option Nat} {fo lt : Nat → Int32} {th en : Int32} {D : Nat → Md} {R : Nat} {x2 : Int32} (hP : Pool LP PF noW emW) (ht : t ≤ 24) (htp : ∀ i, i < t → tape i = nI (tp i) ∧ tp i < 256) (hD : ∀ M, M < 3 → DOk (D M)) (hR : R ≤ 16) {S : TS} (hrd : rdT tp t t 0 TS0 none = (t, some S)) (hu : ¬ UW th en) (hroom : RoomR (fun M => (D M).P) R S.q 0 x2) {mor aor : Nat → Int32} {fc : Int32} {g1 g2 g3 g4 g5 g6 g7 g8 : Nat → Int32} {post : _}
    (hpost : ∀ D', MdAdd (D 0) D' S R → DOk D' → ∀ (n : Nat) (g s : Nat → Nat) fa fw, Mini D'.au g n s → Mach D'.au g n s fa fw → ∀ a1 a2 a3 a4 a5 a6 a7 a8 b1 b2 b3 c1 c2 e0 e1 e2 e3 e4 e5 e6 e7 e8 LP' PF', Pool LP' PF' noW emW →
      post (nI R) 0 a1 a2 a3 a4 a5 a6 a7 a8 b1 b2 b3 c1 c2 (nI (R + 1)) (nI D'.P) D'.fi D'.la (-1) (-1) (upd mor R 0) (upd aor R x2) D'.lt D'.fo D'.ru e0 e1 e2 e3 e4 e5 e6 e7 e8 LP' PF' (n * 6) fa n fw (-1) 0) :
    p_TB_ruleS0 (nI t) noW emW fr ot da na fm ch sq pt tape fo lt th en (nI R) (nI (D 0).P) (D 0).fi (D 0).la (nI (D 1).P) (nI (D 2).P) mor aor (D 0).lt (D 0).fo (D 0).ru fc g1 g2 g3 g4 g5 g6 g7 g8 LP PF x2 post := by
  obtain ⟨hR16, ⟨M, hM, eM, h9⟩, ha⟩ := hroom
  have hMM : M = 0 := (nI_eq (b := 0) (by omega) (by omega)).mp eM.symm
  subst hMM
  have hroom : RoomR (fun M => (D M).P) R S.q (nI 0) x2 := ⟨hR16, ⟨0, hM, rfl, h9⟩, ha⟩
  refine q_read hP ht htp (fun j e => by rw [hrd] at e; cases e) (fun S' e dp' pl' op' fr' ot' da' na' fm' ch' sq' pt' fo' lt' LP' PF' hq hC => ⟨fun _ => ?_, fun z => absurd rfl z⟩)
  rw [hrd] at e
  have e := Option.some.inj (congrArg (fun z => z.2) e)
  subst e
  refine q_underWay (fun z => absurd z hu) (fun _ => ⟨fun z => absurd rfl z, fun _ => ?_⟩)
  have hpl := hC.pl
  subst hpl
  refine q_hasRoom (P := fun M => (D M).P) (fun M hM => (hD M hM).hP) hR (by omega) (fun _ => ⟨fun _ => ?_, fun z => absurd z (by decide)⟩) (fun z => absurd hroom z)
  have hv : vp_in (nI R) 16 := vp_in_nI hR16 (by omega)
  refine ⟨hv, hv, ?_⟩
  refine q_ModeAdd hR16 h9 hC (fun D' hadd => ?_)
  have hD' := hadd.ok (hD 0 hM) h9 hR16
  refine q_build hD' (fun fc' pl' gr' fo2 be' ne' sa' ol' fi' n g s fa fw hMi hMa => ?_)
  rw [nI_clamp (n := R) (by omega), nI_1]
  exact hpost D' hadd hD' n g s fa fw hMi hMa _ _ _ _ _ _ _ _ _ _ _ _ _ _ _ _ _ _ _ _ _ _ _ _ ⟨hC.noW, hC.emW⟩
theorem q_ruleS1 {noW emW : Nat} {LP : List Nat} {PF : Nat → Pc} {tp : Nat → Nat} {t : Nat} {tape : Nat → Int32} {fr ot da na fm : Int32} {ch sq pt : Nat → Option Nat} {fo lt : Nat → Int32} {th en : Int32} {D : Nat → Md} {R : Nat} {x2 : Int32} (hP : Pool LP PF noW emW) (ht : t ≤ 24) (htp : ∀ i, i < t → tape i = nI (tp i) ∧ tp i < 256) (hD : ∀ M, M < 3 → DOk (D M)) (hR : R ≤ 16) {S : TS} (hrd : rdT tp t t 0 TS0 none = (t, some S)) (hu : ¬ UW th en) (hroom : RoomR (fun M => (D M).P) R S.q 1 x2) {mor aor : Nat → Int32} {fc : Int32} {g1 g2 g3 g4 g5 g6 g7 g8 : Nat → Int32} {post : _}
    (hpost : ∀ D', MdAdd (D 1) D' S R → DOk D' → ∀ (n : Nat) (g s : Nat → Nat) fa fw, Mini D'.au g n s → Mach D'.au g n s fa fw → ∀ a1 a2 a3 a4 a5 a6 a7 a8 b1 b2 b3 c1 c2 e0 e1 e2 e3 e4 e5 e6 e7 e8 LP' PF', Pool LP' PF' noW emW →
      post (nI R) 0 a1 a2 a3 a4 a5 a6 a7 a8 b1 b2 b3 c1 c2 (nI (R + 1)) (nI D'.P) D'.fi D'.la (-1) (-1) (upd mor R 1) (upd aor R x2) D'.lt D'.fo D'.ru e0 e1 e2 e3 e4 e5 e6 e7 e8 LP' PF' (n * 6) fa n fw (-1) 0) :
    p_TB_ruleS1 (nI t) noW emW fr ot da na fm ch sq pt tape fo lt th en (nI R) (nI (D 0).P) (nI (D 1).P) (D 1).fi (D 1).la (nI (D 2).P) mor aor (D 1).lt (D 1).fo (D 1).ru fc g1 g2 g3 g4 g5 g6 g7 g8 LP PF x2 post := by
  obtain ⟨hR16, ⟨M, hM, eM, h9⟩, ha⟩ := hroom
  have hMM : M = 1 := (nI_eq (b := 1) (by omega) (by omega)).mp eM.symm
  subst hMM
  have hroom : RoomR (fun M => (D M).P) R S.q (nI 1) x2 := ⟨hR16, ⟨1, hM, rfl, h9⟩, ha⟩
  refine q_read hP ht htp (fun j e => by rw [hrd] at e; cases e) (fun S' e dp' pl' op' fr' ot' da' na' fm' ch' sq' pt' fo' lt' LP' PF' hq hC => ⟨fun _ => ?_, fun z => absurd rfl z⟩)
  rw [hrd] at e
  have e := Option.some.inj (congrArg (fun z => z.2) e)
  subst e
  refine q_underWay (fun z => absurd z hu) (fun _ => ⟨fun z => absurd rfl z, fun _ => ?_⟩)
  have hpl := hC.pl
  subst hpl
  refine q_hasRoom (P := fun M => (D M).P) (fun M hM => (hD M hM).hP) hR (by omega) (fun _ => ⟨fun _ => ?_, fun z => absurd z (by decide)⟩) (fun z => absurd hroom z)
  have hv : vp_in (nI R) 16 := vp_in_nI hR16 (by omega)
  refine ⟨hv, hv, ?_⟩
  refine q_ModeAdd hR16 h9 hC (fun D' hadd => ?_)
  have hD' := hadd.ok (hD 1 hM) h9 hR16
  refine q_build hD' (fun fc' pl' gr' fo2 be' ne' sa' ol' fi' n g s fa fw hMi hMa => ?_)
  rw [nI_clamp (n := R) (by omega), nI_1]
  exact hpost D' hadd hD' n g s fa fw hMi hMa _ _ _ _ _ _ _ _ _ _ _ _ _ _ _ _ _ _ _ _ _ _ _ _ ⟨hC.noW, hC.emW⟩
theorem q_ruleS2 {noW emW : Nat} {LP : List Nat} {PF : Nat → Pc} {tp : Nat → Nat} {t : Nat} {tape : Nat → Int32} {fr ot da na fm : Int32} {ch sq pt : Nat → Option Nat} {fo lt : Nat → Int32} {th en : Int32} {D : Nat → Md} {R : Nat} {x2 : Int32} (hP : Pool LP PF noW emW) (ht : t ≤ 24) (htp : ∀ i, i < t → tape i = nI (tp i) ∧ tp i < 256) (hD : ∀ M, M < 3 → DOk (D M)) (hR : R ≤ 16) {S : TS} (hrd : rdT tp t t 0 TS0 none = (t, some S)) (hu : ¬ UW th en) (hroom : RoomR (fun M => (D M).P) R S.q 2 x2) {mor aor : Nat → Int32} {fc : Int32} {g1 g2 g3 g4 g5 g6 g7 g8 : Nat → Int32} {post : _}
    (hpost : ∀ D', MdAdd (D 2) D' S R → DOk D' → ∀ (n : Nat) (g s : Nat → Nat) fa fw, Mini D'.au g n s → Mach D'.au g n s fa fw → ∀ a1 a2 a3 a4 a5 a6 a7 a8 b1 b2 b3 c1 c2 e0 e1 e2 e3 e4 e5 e6 e7 e8 LP' PF', Pool LP' PF' noW emW →
      post (nI R) 0 a1 a2 a3 a4 a5 a6 a7 a8 b1 b2 b3 c1 c2 (nI (R + 1)) (nI D'.P) D'.fi D'.la (-1) (-1) (upd mor R 2) (upd aor R x2) D'.lt D'.fo D'.ru e0 e1 e2 e3 e4 e5 e6 e7 e8 LP' PF' (n * 6) fa n fw (-1) 0) :
    p_TB_ruleS2 (nI t) noW emW fr ot da na fm ch sq pt tape fo lt th en (nI R) (nI (D 0).P) (nI (D 1).P) (nI (D 2).P) (D 2).fi (D 2).la mor aor (D 2).lt (D 2).fo (D 2).ru fc g1 g2 g3 g4 g5 g6 g7 g8 LP PF x2 post := by
  obtain ⟨hR16, ⟨M, hM, eM, h9⟩, ha⟩ := hroom
  have hMM : M = 2 := (nI_eq (b := 2) (by omega) (by omega)).mp eM.symm
  subst hMM
  have hroom : RoomR (fun M => (D M).P) R S.q (nI 2) x2 := ⟨hR16, ⟨2, hM, rfl, h9⟩, ha⟩
  refine q_read hP ht htp (fun j e => by rw [hrd] at e; cases e) (fun S' e dp' pl' op' fr' ot' da' na' fm' ch' sq' pt' fo' lt' LP' PF' hq hC => ⟨fun _ => ?_, fun z => absurd rfl z⟩)
  rw [hrd] at e
  have e := Option.some.inj (congrArg (fun z => z.2) e)
  subst e
  refine q_underWay (fun z => absurd z hu) (fun _ => ⟨fun z => absurd rfl z, fun _ => ?_⟩)
  have hpl := hC.pl
  subst hpl
  refine q_hasRoom (P := fun M => (D M).P) (fun M hM => (hD M hM).hP) hR (by omega) (fun _ => ⟨fun _ => ?_, fun z => absurd z (by decide)⟩) (fun z => absurd hroom z)
  have hv : vp_in (nI R) 16 := vp_in_nI hR16 (by omega)
  refine ⟨hv, hv, ?_⟩
  refine q_ModeAdd hR16 h9 hC (fun D' hadd => ?_)
  have hD' := hadd.ok (hD 2 hM) h9 hR16
  refine q_build hD' (fun fc' pl' gr' fo2 be' ne' sa' ol' fi' n g s fa fw hMi hMa => ?_)
  rw [nI_clamp (n := R) (by omega), nI_1]
  exact hpost D' hadd hD' n g s fa fw hMi hMa _ _ _ _ _ _ _ _ _ _ _ _ _ _ _ _ _ _ _ _ _ _ _ _ ⟨hC.noW, hC.emW⟩