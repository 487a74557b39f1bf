/-! What is asked of the reference's machines -/
theorem RM.tr {D : Md} {M : Nat} {no se st gr sa gs : Nat → Int32} {g g' s s' : Nat → Nat} {n n' : Nat} (h : RM D M no se st gr sa gs g n s) (h' : Mini D.au g' n' s') : RM D M no se st gr sa gs g' n' s' := by
  obtain ⟨e1, e2, -⟩ := h.mi.uniq h'
  refine ⟨h.rs, fun k hk => by rw [h.gr k hk, e1 k hk], by rw [h.gs, e2], fun q hq => ?_, h'⟩
  obtain ⟨k, h1, h2, h3⟩ := h.sa q (by omega)
  exact ⟨k, h1, h2, by rw [← e1 k h1, h3]⟩
theorem RM.frame {D : Md} (hA : D.au.Ok) {M M' : Nat} (hne : M' ≠ M) {no se st gr sa gs no' se' st' gr' sa' gs' : Nat → Int32} {g s : Nat → Nat} {n : Nat} (h : RM D M' no se st gr sa gs g n s) (b1 : Blk 1 M no no') (b2 : Blk 514 M se se') (b3 : Blk 3084 M st st') (b4 : Blk 514 M gr gr') (b5 : Blk 514 M sa sa') (b6 : Blk 1 M gs gs') : RM D M' no' se' st' gr' sa' gs' g n s := by
  have hle := hA.le
  have hn := h.mi.can.le
  refine ⟨⟨?_, fun k h1 h2 => ?_, fun k c h1 h2 => ?_⟩, fun k hk => ?_, ?_, fun q hq => ?_, h.mi⟩
  · rw [b1 M' (by omega)]; exact h.rs.no
  · rw [b2 _ (by rcases Nat.lt_or_gt_of_ne hne with z | z <;> omega)]; exact h.rs.se k h1 h2
  · rw [b3 _ (by rcases Nat.lt_or_gt_of_ne hne with z | z <;> omega)]; exact h.rs.st k c h1 h2
  · rw [b4 _ (by rcases Nat.lt_or_gt_of_ne hne with z | z <;> omega)]; exact h.gr k hk
  · rw [b6 M' (by omega)]; exact h.gs
  · obtain ⟨k, h1, h2, h3⟩ := h.sa q hq
    exact ⟨k, h1, by rw [b5 _ (by rcases Nat.lt_or_gt_of_ne hne with z | z <;> omega)]; exact h2, h3⟩
/-- the rules of all modes, as the reference holds them; the states of all modes -/
def RT (D : Nat → Md) (G : Nat → Nat → Nat) (n : Nat → Nat) (s : Nat → Nat → Nat) (R : Nat) (many lt be mo fs ls : Nat → Int32) : Prop :=
  (∀ M, M < 3 → DOk (D M)) ∧
  (∀ M, M < 3 → RefMd (D M) M R many lt be mo fs ls) ∧
  (∀ M, M < 3 → Mini (D M).au (G M) (n M) (s M))
theorem RT.dok {D : Nat → Md} {G : Nat → Nat → Nat} {n : Nat → Nat} {s : Nat → Nat → Nat} {R : Nat} {many lt be mo fs ls : Nat → Int32} (h_ : RT D G n s R many lt be mo fs ls) : ∀ M, M < 3 → DOk (D M) := h_.1
theorem RT.rd {D : Nat → Md} {G : Nat → Nat → Nat} {n : Nat → Nat} {s : Nat → Nat → Nat} {R : Nat} {many lt be mo fs ls : Nat → Int32} (h_ : RT D G n s R many lt be mo fs ls) : ∀ M, M < 3 → RefMd (D M) M R many lt be mo fs ls := h_.2.1
theorem RT.mi {D : Nat → Md} {G : Nat → Nat → Nat} {n : Nat → Nat} {s : Nat → Nat → Nat} {R : Nat} {many lt be mo fs ls : Nat → Int32} (h_ : RT D G n s R many lt be mo fs ls) : ∀ M, M < 3 → Mini (D M).au (G M) (n M) (s M) := h_.2.2

/-- what the reference has made so far -/
def RK (D : Nat → Md) (G : Nat → Nat → Nat) (n : Nat → Nat) (s : Nat → Nat → Nat) (ma no se st gr sa gs : Nat → Int32) : Prop := ∀ M, M < 3 → ¬ ma M = 0 → RM (D M) M no se st gr sa gs (G M) (n M) (s M)
theorem q_M_makeA {D : Nat → Md} {G : Nat → Nat → Nat} {n : Nat → Nat} {s : Nat → Nat → Nat} {R : Nat} {many lt be mo fs ls : Nat → Int32} (T : RT D G n s R many lt be mo fs ls) {ma no se st gr sa fr gs : Nat → Int32} (K : RK D G n s ma no se st gr sa gs) {M : Nat} (hM : M < 3) {post : _}
    (hp : ∀ ma' no' se' st' gr' sa' fr' gs', RK D G n s ma' no' se' st' gr' sa' gs' → RM (D M) M no' se' st' gr' sa' gs' (G M) (n M) (s M) → (∀ i, ¬ ma i = 0 → ¬ ma' i = 0) → ¬ ma' M = 0 → post ma' no' se' st' gr' sa' fr' gs') :
    p_M_make (nI R) ma no mo fs many se be lt st ls gr sa fr gs (nI M) post := by
  refine q_M_make (T.dok M hM) (T.rd M hM) (fun z => ⟨_, _, _, K M hM z⟩) (fun ma' no' se' st' gr' sa' fr' gs' g n' s' b0 b1 b2 b3 b4 b5 b6 em hR => ?_)
  have hR' := hR.tr (T.mi M hM)
  have hm : ¬ ma' M = 0 := by
    rw [em]
    split
    · rw [nar1]; decide
    · assumption
  refine hp _ _ _ _ _ _ _ _ (fun M' hM' z => ?_) hR' (fun i hi => ?_) hm
  · by_cases e : M' = M
    · subst e; exact hR'
    · rw [b0 M' (by omega)] at z
      exact (K M' hM' z).frame (au_ok (T.dok M' hM')) e b1 b2 b3 b4 b5 b6
  · by_cases e : i = M
    · subst e; exact hm
    · rw [b0 i (by omega)]; exact hi
theorem is3 {x : Int32} : (x = 0 ∨ x = 1 ∨ x = 2) ↔ ∃ M, M < 3 ∧ x = nI M := by
  constructor
  · rintro (rfl | rfl | rfl)
    · exact ⟨0, by omega, rfl⟩
    · exact ⟨1, by omega, rfl⟩
    · exact ⟨2, by omega, rfl⟩
  · rintro ⟨M, hM, rfl⟩
    match M, hM with
    | 0, _ => exact Or.inl rfl
    | 1, _ => exact Or.inr (Or.inl rfl)
    | 2, _ => exact Or.inr (Or.inr rfl)
theorem q_M_isMode {x : Int32} {post : Int32 → Prop} (h1 : ∀ M, M < 3 → x = nI M → post 1) (h0 : (∀ M, M < 3 → x ≠ nI M) → post 0) : p_M_isMode x post := by
  refine ⟨fun a => h0 fun M hM e => ?_, fun a => ⟨fun b => h0 fun M hM e => ?_, fun b => ?_⟩⟩
  · subst e; exact nI_pos (by omega) a
  · subst e; exact nI_ge (b := 3) hM (by omega) b
  · obtain ⟨j, hj, rfl⟩ := nI_of a
    refine h1 j ?_ rfl
    rcases Nat.lt_or_ge j 3 with h | h
    · exact h
    · exact absurd (nI_le (a := 3) h hj) b
theorem q_M_isState {D : Nat → Md} {G : Nat → Nat → Nat} {n : Nat → Nat} {s : Nat → Nat → Nat} {R : Nat} {many lt be mo fs ls : Nat → Int32} (T : RT D G n s R many lt be mo fs ls) {ma no se st gr sa fr gs : Nat → Int32} (K : RK D G n s ma no se st gr sa gs) {x1 x2 : Int32} {post : _}
    (h1 : ∀ M, M < 3 → x1 = nI M → ∀ h, h < n M → x2 = nI h → ∀ ma' no' se' st' gr' sa' fr' gs', RK D G n s ma' no' se' st' gr' sa' gs' → RM (D M) M no' se' st' gr' sa' gs' (G M) (n M) (s M) → post 1 ma' no' se' st' gr' sa' fr' gs')
    (h0 : ((∀ M, M < 3 → x1 ≠ nI M) ∨ ∃ M, M < 3 ∧ x1 = nI M ∧ (x2 < 0 ∨ nI (n M) ≤ x2)) → ∀ ma' no' se' st' gr' sa' fr' gs', RK D G n s ma' no' se' st' gr' sa' gs' → post 0 ma' no' se' st' gr' sa' fr' gs') :
    p_M_isState (nI R) ma no mo fs many se be lt st ls gr sa fr gs x1 x2 post := by
  refine q_M_isMode (fun M hM e => ⟨fun _ => ?_, fun z => absurd z (by decide)⟩) (fun hn => ⟨fun z => absurd rfl z, fun _ => h0 (Or.inl hn) _ _ _ _ _ _ _ _ K⟩)
  subst e
  refine q_M_makeA T K hM (fun ma' no' se' st' gr' sa' fr' gs' K' hR _ _ => ?_)
  have hnN := hR.mi.can.le
  have hle := (au_ok (T.dok M hM)).le
  refine ⟨fun a => h0 (Or.inr ⟨M, hM, rfl, Or.inl a⟩) _ _ _ _ _ _ _ _ K', fun a => ⟨vp_in_nI hM (by omega), ?_⟩⟩
  rw [nI_clamp (by omega), hR.gs]
  refine ⟨fun b => h0 (Or.inr ⟨M, hM, rfl, Or.inr b⟩) _ _ _ _ _ _ _ _ K', fun b => ?_⟩
  obtain ⟨j, hj, rfl⟩ := nI_of a
  have hjn : j < n M := by
    rcases Nat.lt_or_ge j (n M) with h | h
    · exact h
    · exact absurd (nI_le h hj) b
  exact h1 M hM rfl j hjn rfl _ _ _ _ _ _ _ _ K' hR
theorem q_M_states {D : Nat → Md} {G : Nat → Nat → Nat} {n : Nat → Nat} {s : Nat → Nat → Nat} {R : Nat} {many lt be mo fs ls : Nat → Int32} (T : RT D G n s R many lt be mo fs ls) {ma no se st gr sa fr gs : Nat → Int32} (K : RK D G n s ma no se st gr sa gs) {x1 : Int32} {post : _}
    (h1 : ∀ M, M < 3 → x1 = nI M → ∀ ma' no' se' st' gr' sa' fr' gs', RK D G n s ma' no' se' st' gr' sa' gs' → post (nI (n M)) 0 ma' no' se' st' gr' sa' fr' gs')
    (h0 : (∀ M, M < 3 → x1 ≠ nI M) → ∀ ma' no' se' st' gr' sa' fr' gs', RK D G n s ma' no' se' st' gr' sa' gs' → post (-1) 0 ma' no' se' st' gr' sa' fr' gs') :
    p_M_states (nI R) ma no mo fs many se be lt st ls gr sa fr gs x1 post := by
  refine q_M_isState T K (fun M hM e h hh eh ma' no' se' st' gr' sa' fr' gs' K' hR => ⟨fun z => absurd z (by decide), fun _ => ?_⟩) (fun hn ma' no' se' st' gr' sa' fr' gs' K' => ⟨fun _ => ?_, fun z => absurd rfl z⟩)
  · have := h1 M hM e _ _ _ _ _ _ fr' _ K'
    subst e
    rw [nI_clamp (by omega), hR.gs]
    exact ⟨vp_in_nI hM (by omega), this⟩
  · rcases hn with hn | ⟨M, hM, e, hx⟩
    · exact h0 hn _ _ _ _ _ _ _ _ K'
    · exfalso
      have hpos : 0 < n M := by
        have := (T.mi M hM).can.2 0 (au_ok (T.dok M hM)).pos
        omega
      have := (T.mi M hM).can.le
      have := (au_ok (T.dok M hM)).le
      rcases hx with z | z
      · exact absurd z (by decide)
      · exact absurd z (nI_nle hpos (by omega))
theorem q_M_next {D : Nat → Md} {G : Nat → Nat → Nat} {n : Nat → Nat} {s : Nat → Nat → Nat} {R : Nat} {many lt be mo fs ls : Nat → Int32} (T : RT D G n s R many lt be mo fs ls) {ma no se st gr sa fr gs : Nat → Int32} (K : RK D G n s ma no se st gr sa gs) {x1 x2 x3 : Int32} {fa fw : Nat → Nat → Int32} (hmach : ∀ M, M < 3 → Mach (D M).au (G M) (n M) (s M) (fa M) (fw M)) {post : _}
    (h1 : ∀ M, M < 3 → x1 = nI M → ∀ ma' no' se' st' gr' sa' fr' gs', RK D G n s ma' no' se' st' gr' sa' gs' → post (mAft (n M) (fa M) x2 x3) 0 ma' no' se' st' gr' sa' fr' gs')
    (h0 : (∀ M, M < 3 → x1 ≠ nI M) → ∀ ma' no' se' st' gr' sa' fr' gs', RK D G n s ma' no' se' st' gr' sa' gs' → post (-1) 0 ma' no' se' st' gr' sa' fr' gs') :
    p_M_next (nI R) ma no mo fs many se be lt st ls gr sa fr gs x1 x2 x3 post := by
  refine q_M_isState T K (fun M hM e h hh eh ma' no' se' st' gr' sa' fr' gs' K' hR => ⟨fun z => absurd z (by decide), fun _ => ?_⟩) (fun hn ma' no' se' st' gr' sa' fr' gs' K' => ⟨fun _ => ?_, fun z => absurd rfl z⟩)
  · have hA := au_ok (T.dok M hM)
    have hle := hA.le
    have hnN := hR.mi.can.le
    have hp := h1 M hM e _ _ _ _ _ _ fr' _ K'
    subst e
    subst eh
    obtain ⟨k, hk, ek, gk⟩ := hR.sa h hh
    obtain ⟨s1, s2, -⟩ := hR.mi.can.1 h hh
    refine ⟨fun a => ?_, fun a => ⟨fun b => ?_, fun b => ?_⟩⟩
    · rw [mAft, if_neg (fun q => q.2.2.1 a)] at hp; exact hp
    · obtain ⟨c, hc, rfl⟩ := nI_of a
      have hc6 : c < 6 := (nI_ltI (b := 6) (by omega) (by omega)).mp b
      rw [ix514, nI_clamp (n := 514 * M + h) (by omega), ek]
      refine ⟨vp_in_nI (by omega) (by omega), q_M_go hA hM hR.rs hk hc6 ?_⟩
      have hv : mAft (n M) (fa M) (nI h) (nI c) = gA (G M) ((D M).au.to k c) := by
        rw [mAft, if_pos ⟨nI_pos (by omega), nI_ge hh (by omega), nI_pos (by omega), nI_ge (b := 6) hc6 (by omega)⟩]
        rw [show nI h * 6 + nI c = nI (6 * h + c) by rw [show (6 : Int32) = nI 6 from rfl, pk_mul, nI_add, Nat.mul_comm], nI_clamp (by omega), (hmach M hM).a h c hh hc6]
        exact hR.mi.step hA s1 hk hc6 (by rw [s2, gk])
      rw [hv] at hp
      have ht := hA.to k c hk hc6
      by_cases z : (D M).au.to k c = 0
      · rw [gT_0 z]
        rw [gA, if_pos z] at hp
        exact ⟨fun y => absurd rfl y, fun _ => hp⟩
      · rw [gT_n z]
        rw [gA, if_neg z] at hp
        have hG := GG.nat hA hR.gr (fun k hk => by have := hR.mi.can.2 k hk; omega)
        exact q_M_groupAt hA hM hG ht hp
    · have hb : 6 ≤ x3 := by
        obtain ⟨c, hc, rfl⟩ := nI_of a
        rcases Nat.lt_or_ge c 6 with z | z
        · exact absurd (nI_lt (b := 6) z (by omega)) b
        · exact nI_le (a := 6) z hc
      rw [mAft, if_neg (fun q => q.2.2.2 hb)] at hp; exact hp
  · rcases hn with hn | ⟨M, hM, e, hx⟩
    · exact h0 hn _ _ _ _ _ _ _ _ K'
    · have hp := h1 M hM e _ _ _ _ _ _ fr' _ K'
      rw [mAft, if_neg (fun q => hx.elim q.1 q.2.1)] at hp
      exact hp
theorem q_M_winner {D : Nat → Md} {G : Nat → Nat → Nat} {n : Nat → Nat} {s : Nat → Nat → Nat} {R : Nat} {many lt be mo fs ls : Nat → Int32} (T : RT D G n s R many lt be mo fs ls) {ma no se st gr sa fr gs : Nat → Int32} (K : RK D G n s ma no se st gr sa gs) {x1 x2 : Int32} {fa fw : Nat → Nat → Int32} (hmach : ∀ M, M < 3 → Mach (D M).au (G M) (n M) (s M) (fa M) (fw M)) {post : _}
    (h1 : ∀ M, M < 3 → x1 = nI M → ∀ ma' no' se' st' gr' sa' fr' gs', RK D G n s ma' no' se' st' gr' sa' gs' → post (mWin (n M) (fw M) x2) 0 ma' no' se' st' gr' sa' fr' gs')
    (h0 : (∀ M, M < 3 → x1 ≠ nI M) → ∀ ma' no' se' st' gr' sa' fr' gs', RK D G n s ma' no' se' st' gr' sa' gs' → post (-1) 0 ma' no' se' st' gr' sa' fr' gs') :
    p_M_winner (nI R) ma no mo fs many se be lt st ls gr sa fr gs x1 x2 post := by
  refine q_M_isState T K (fun M hM e h hh eh ma' no' se' st' gr' sa' fr' gs' K' hR => ⟨fun z => absurd z (by decide), fun _ => ?_⟩) (fun hn ma' no' se' st' gr' sa' fr' gs' K' => ⟨fun _ => ?_, fun z => absurd rfl z⟩)
  · have hA := au_ok (T.dok M hM)
    have hle := hA.le
    have hnN := hR.mi.can.le
    have hp := h1 M hM e _ _ _ _ _ _ fr' _ K'
    subst e
    subst eh
    obtain ⟨k, hk, ek, gk⟩ := hR.sa h hh
    obtain ⟨s1, s2, -⟩ := hR.mi.can.1 h hh
    have ok := ((D M).sets_ok (T.dok M hM).hP).ok
    rw [ix514, nI_clamp (n := 514 * M + h) (by omega), ek]
    refine ⟨vp_in_nI (by omega) (by omega), q_M_wins (T.rd M hM) (s := nd (D M).sets k) (by omega) (fun hpos => hR.rs.se k hpos hk) (fun e => by rw [e]; exact ok.z) (ok.s9 _ (nd_mem hk)) ?_⟩
    have hv : mWin (n M) (fw M) (nI h) = (D M).au.wn k := by
      rw [mWin, if_pos ⟨nI_pos (by omega), nI_ge hh (by omega)⟩, nI_clamp (by omega), (hmach M hM).w h hh]
      exact hR.mi.wn s1 hk (by rw [s2, gk])
    rw [hv] at hp
    exact hp
  · rcases hn with hn | ⟨M, hM, e, hx⟩
    · exact h0 hn _ _ _ _ _ _ _ _ K'
    · have hp := h1 M hM e _ _ _ _ _ _ fr' _ K'
      rw [mWin, if_neg (fun q => hx.elim q.1 q.2)] at hp
      exact hp
theorem q_M_never {D : Nat → Md} {G : Nat → Nat → Nat} {n : Nat → Nat} {s : Nat → Nat → Nat} {R : Nat} {many lt be mo fs ls : Nat → Int32} (T : RT D G n s R many lt be mo fs ls) {ma no se st gr sa fr gs : Nat → Int32} (K : RK D G n s ma no se st gr sa gs) {x1 : Int32} {fa fw : Nat → Nat → Int32} (hmach : ∀ M, M < 3 → Mach (D M).au (G M) (n M) (s M) (fa M) (fw M)) (hmo : ∀ r, r < R → ∃ M, M < 3 ∧ mo r = nI M) {post : _}
    (h1 : ∀ r, r < R → x1 = nI r → ∀ M, M < 3 → mo r = nI M → ∀ ma' no' se' st' gr' sa' fr' gs', RK D G n s ma' no' se' st' gr' sa' gs' → ((∃ i, i < n M ∧ fw M i = x1) → post 0 0 ma' no' se' st' gr' sa' fr' gs') ∧ ((∀ i, i < n M → fw M i ≠ x1) → post 1 0 ma' no' se' st' gr' sa' fr' gs'))
    (h0 : (x1 < 0 ∨ nI R ≤ x1) → ∀ ma' no' se' st' gr' sa' fr' gs', RK D G n s ma' no' se' st' gr' sa' gs' → post 0 0 ma' no' se' st' gr' sa' fr' gs') :
    p_M_never (nI R) mo ma no fs many se be lt st ls gr sa fr gs x1 post := by
  have hR16 := (T.rd 0 (by omega)).hR
  refine ⟨fun a => h0 (Or.inl a) _ _ _ _ _ _ _ _ K, fun a => ?_⟩
  obtain ⟨r, hr, rfl⟩ := nI_of a
  refine ⟨fun b => ?_, fun b => h0 (Or.inr ?_) _ _ _ _ _ _ _ _ K⟩
  · have hrR : r < R := (nI_ltI hr (by omega)).mp b
    obtain ⟨M, hM, eM⟩ := hmo r hrR
    refine ⟨vp_in_nI (by omega) (by omega), ?_⟩
    rw [nI_clamp (by omega), eM]
    refine q_M_makeA T K hM (fun ma' no' se' st' gr' sa' fr' gs' K' hRM _ _ => ?_)
    have hA := au_ok (T.dok M hM)
    have hle := hA.le
    have hnN := hRM.mi.can.le
    have hp := h1 r hrR rfl M hM eM _ _ _ _ _ _ fr' _ K'
    have ok := ((D M).sets_ok (T.dok M hM).hP).ok
    have key : ∀ (d k : Nat), k + d = (D M).au.N → (∀ j, j < k → (D M).au.wn j ≠ nI r) → ∃ q, p_M_never_33 (nI R) mo ls (nI r) post q (nI M) (nI k) 0 ma' no' se' st' gr' sa' fr' gs' := by
      intro d
      induction d with
      | zero =>
        intro k hk hno
        refine ⟨1, vp_in_nI hM (by omega), ?_⟩
        rw [nI_clamp (by omega), hRM.rs.no]
        refine ⟨fun _ => hp.2 (fun i hi e => ?_), fun z => absurd (nI_le (by omega) (by omega)) z⟩
        rw [(hmach M hM).w i hi] at e
        exact hno (s M i) (by have := (hRM.mi.can.1 i hi).1; omega) e
      | succ d ih =>
        intro k hk hno
        have hkN : k < (D M).au.N := by omega
        by_cases e : (D M).au.wn k = nI r
        · refine ⟨1, vp_in_nI hM (by omega), ?_⟩
          rw [nI_clamp (by omega), hRM.rs.no]
          refine ⟨fun z => absurd z (nI_ge (by omega) (by omega)), fun _ => q_M_wins (T.rd M hM) (s := nd (D M).sets k) (by omega) (fun hpos => hRM.rs.se k hpos hkN) (fun e => by rw [e]; exact ok.z) (ok.s9 _ (nd_mem hkN)) ⟨fun z => absurd e z, fun _ => hp.1 ?_⟩⟩
          obtain ⟨q1, q2, q3⟩ := hRM.mi.smp hkN
          exact ⟨G M k, q1, by rw [(hmach M hM).w _ q1, hRM.mi.wn q2 hkN q3, e]⟩
        · obtain ⟨q, hq⟩ := ih (k + 1) (by omega) (fun j hj => by
            by_cases y : j = k
            · rw [y]; exact e
            · exact hno j (by omega))
          refine ⟨q + 1, vp_in_nI hM (by omega), ?_⟩
          rw [nI_clamp (by omega), hRM.rs.no, nI_1]
          exact ⟨fun z => absurd z (nI_ge (by omega) (by omega)), fun _ => q_M_wins (T.rd M hM) (s := nd (D M).sets k) (by omega) (fun hpos => hRM.rs.se k hpos hkN) (fun e => by rw [e]; exact ok.z) (ok.s9 _ (nd_mem hkN)) ⟨fun _ => hq, fun z => absurd z e⟩⟩
    exact key (D M).au.N 0 (by omega) (fun j hj => absurd hj (Nat.not_lt_zero _))
  · rcases Nat.lt_or_ge r R with z | z
    · exact absurd (nI_lt z (by omega)) b
    · exact nI_le z hr