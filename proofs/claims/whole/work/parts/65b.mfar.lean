/-! The reference: far -/
/-- level n is at hand -/
def FH (fol : Nat → Nat → Nat) (parts : Nat → Prop) (p0 n : Nat) (sn fr : Nat → Int32) : Prop :=
  (∀ p, p < 265280 → (hasb sn p = true ↔ Rc fol p0 n p)) ∧
  (∀ p, p < 265280 → (hasb fr p = true ↔ Fr fol p0 n p)) ∧
  (∀ p, (∃ m, m < n ∧ Rc fol p0 m p) → ¬ parts p)
theorem FH.s {fol : Nat → Nat → Nat} {parts : Nat → Prop} {p0 n : Nat} {sn fr : Nat → Int32} (h_ : FH fol parts p0 n sn fr) : ∀ p, p < 265280 → (hasb sn p = true ↔ Rc fol p0 n p) := h_.1
theorem FH.f {fol : Nat → Nat → Nat} {parts : Nat → Prop} {p0 n : Nat} {sn fr : Nat → Int32} (h_ : FH fol parts p0 n sn fr) : ∀ p, p < 265280 → (hasb fr p = true ↔ Fr fol p0 n p) := h_.2.1
theorem FH.np {fol : Nat → Nat → Nat} {parts : Nat → Prop} {p0 n : Nat} {sn fr : Nat → Int32} (h_ : FH fol parts p0 n sn fr) : ∀ p, (∃ m, m < n ∧ Rc fol p0 m p) → ¬ parts p := h_.2.2

theorem Rc_V {fol : Nat → Nat → Nat} {V : Nat → Prop} (HV : ∀ p c, V p → c < 6 → V (fol p c)) {p0 : Nat} (h0 : V p0) : ∀ n p, Rc fol p0 n p → V p := by
  rintro n p ⟨w, hw, -, rfl⟩
  clear n
  induction w generalizing p0 with
  | nil => exact h0
  | cons c w ih => exact ih (HV _ c h0 (hw c (List.mem_cons_self))) (fun d hd => hw d (List.mem_cons_of_mem _ hd))
theorem q_far102 {fol : Nat → Nat → Nat} {parts V : Nat → Prop} {R : Int32} {mo se ls st : Nat → Int32} {xa xb : Int32} (HV : ∀ p c, V p → c < 6 → V (fol p c)) (HL : ∀ p, V p → p < 265225) (Hf : ∀ p c (post : Int32 → Prop), V p → c < 6 → post (nI (fol p c)) → p_M_follow st xa xb (nI p) (nI c) post) (Hp : ∀ p (post : Int32 → Prop), V p → (parts p → post 1) → (¬ parts p → post 0) → p_M_parts R mo se ls xa xb (nI p) post) {p0 n kk : Nat} (h0 : V p0) (hn : n < 2 ^ 30) (hkk : kk < 8290) {an : Int32} {sn fr ah : Nat → Int32} (hfr : ∀ p, p < 265280 → (hasb fr p = true ↔ Fr fol p0 n p)) (hnp : ∀ p, (∃ m, m < n ∧ Rc fol p0 m p) → ¬ parts p) (h : FI fol parts p0 n (32 * kk) 0 an sn ah) {post : _} {K55 K91 : _}
    (hpost : FarS fol parts p0 (nI n) → ∀ sn' ah', post (nI n) sn' fr ah')
    (hK : ∀ an' sn' ah', uns sn' + (if an' = 0 then 0 else 1) ≤ uns sn + (if an = 0 then 0 else 1) → FI fol parts p0 n (32 * (kk + 1)) 0 an' sn' ah' → K91 (nI n) an' (nI (kk + 1)) sn' fr ah') :
    ∃ k, p_M_far_102 R mo se ls st xa xb post K55 K91 k (nI n) an (nI kk) 0 sn fr ah := by
  refine pk_loop (σ := Int32 × (Nat → Int32) × (Nat → Int32)) (fun k i z => p_M_far_102 R mo se ls st xa xb post K55 K91 k (nI n) z.1 (nI kk) (nI i) z.2.1 fr z.2.2) (fun i z => uns z.2.1 + (if z.1 = 0 then 0 else 1) ≤ uns sn + (if an = 0 then 0 else 1) ∧ FI fol parts p0 n (32 * kk + i) 0 z.1 z.2.1 z.2.2) 32 0 (an, sn, ah) (Nat.zero_le _) ⟨Nat.le_refl _, h⟩ ?_ ?_
  · rintro k ⟨an', sn', ah'⟩ ⟨hu, hI⟩
    dsimp only at hu hI ⊢
    refine ⟨fun _ => ?_, fun z => absurd (by decide) z⟩
    show K91 (nI n) an' (nI kk + 1) sn' fr ah'
    rw [nI_1]
    exact hK an' sn' ah' hu hI
  · rintro k i ⟨an', sn', ah'⟩ hi ⟨hu, hI⟩ hk
    dsimp only at hu hI hk ⊢
    refine ⟨fun z => absurd z (nI_ge (b := 32) hi (by omega)), fun _ => ⟨vp_in_nI hkk (by omega), ?_⟩⟩
    rw [nI_clamp (n := kk) (by omega)]
    have e32 : (32 : Int32) * nI kk + nI i = nI (32 * kk + i) := by rw [show (32 : Int32) = nI 32 from rfl, pk_mul, nI_add]
    rw [e32]
    refine ⟨fun z => ?_, fun z => ?_⟩
    · show K91 (nI n) an' (nI kk + 1) sn' fr ah'
      rw [nI_1]
      refine hK an' sn' ah' hu (hI.skip (by omega) (fun q h1 h2 hF => ?_))
      have := (hfr q (by omega)).mpr hF
      unfold hasb at this
      rw [show q / 32 = kk by omega, z, tb_0] at this
      cases this
    · refine q_M_has (by omega) (fun hno => ⟨fun y => absurd rfl y, fun _ => ?_⟩) (fun hyes => ⟨fun _ => ?_, fun y => absurd y (by decide)⟩)
      · show p_M_far_102 R mo se ls st xa xb post K55 K91 k (nI n) an' (nI kk) (nI i + 1) sn' fr ah'
        rw [nI_1]
        refine hk (an', sn', ah') ⟨hu, hI.skip (by omega) (fun q h1 h2 hF => ?_)⟩
        have := (hfr q (by omega)).mpr hF
        rw [show q = 32 * kk + i by omega, hno] at this
        cases this
      · have hF := (hfr _ (by omega)).mp hyes
        have hVc := Rc_V HV h0 n _ hF.1
        refine Hp _ _ hVc (fun hpt => ⟨fun y => absurd y (by decide), fun _ => hpost ?_ _ _⟩) (fun hpt => ⟨fun _ => ?_, fun y => absurd rfl y⟩)
        · refine Or.inr ⟨n, hn, rfl, ?_, fun w hw hpw => ?_⟩
          · obtain ⟨w, h1, h2, h3⟩ := hF.1
            refine ⟨w, h1, ?_, by rw [h3]; exact hpt⟩
            rcases Nat.lt_or_ge w.length n with y | y
            · exact absurd ⟨w, h1, Nat.le_refl _, h3⟩ (hF.2 _ y)
            · omega
          · rcases Nat.lt_or_ge w.length n with y | y
            · exact absurd hpw (hnp _ ⟨w.length, y, w, hw, Nat.le_refl _, rfl⟩)
            · exact y
        · refine q_far161 HV HL Hf Hp hVc hF hpt hI (fun an2 sn2 ah2 hu2 hI2 => ?_)
          rw [nI_1]
          exact hk (an2, sn2, ah2) ⟨by dsimp only; omega, hI2⟩
theorem q_far55 {fol : Nat → Nat → Nat} {parts V : Nat → Prop} {R : Int32} {mo se ls st : Nat → Int32} {xa xb : Int32} (HV : ∀ p c, V p → c < 6 → V (fol p c)) (HL : ∀ p, V p → p < 265225) (Hf : ∀ p c (post : Int32 → Prop), V p → c < 6 → post (nI (fol p c)) → p_M_follow st xa xb (nI p) (nI c) post) (Hp : ∀ p (post : Int32 → Prop), V p → (parts p → post 1) → (¬ parts p → post 0) → p_M_parts R mo se ls xa xb (nI p) post) {p0 : Nat} (h0 : V p0) {post : _} (hpost : ∀ r, FarS fol parts p0 r → ∀ sn fr ah, post r sn fr ah) : ∀ (d n : Nat) (an : Int32) (sn fr ah : Nat → Int32), uns sn ≤ d → n + uns sn ≤ 265280 → FH fol parts p0 n sn fr → ((an = 0 ∧ 0 < n ∧ ∀ p, p < 265280 → ¬ Fr fol p0 n p) ∨ an = 1) → p_M_far_55 R mo se ls st xa xb post (d + 2) (nI n) an sn fr ah := by
  have hstop : ∀ n, 0 < n → (∀ p, p < 265280 → ¬ Fr fol p0 n p) → (∀ p, (∃ m, m < n ∧ Rc fol p0 m p) → ¬ parts p) → FarS fol parts p0 (-1) := fun n hn hno hnp => by
    refine Or.inl ⟨rfl, fun w hw => ?_⟩
    have key : ∀ m p, Rc fol p0 m p → Rc fol p0 (n - 1) p := by
      intro m
      induction m with
      | zero => intro p h; exact h.mono (Nat.zero_le _)
      | succ m ih =>
        intro p h
        rcases h.back with z | ⟨q, c, hq, hc, rfl⟩
        · exact ih p z
        · have h1 := (ih q hq).step hc
          rw [show n - 1 + 1 = n by omega] at h1
          apply Classical.byContradiction
          intro y
          have hlt := HL _ (Rc_V HV h0 n _ h1)
          exact hno _ (by omega) ⟨h1, fun m' hm' z => y (z.mono (by omega))⟩
    exact hnp _ ⟨n - 1, by omega, key w.length _ ⟨w, hw, Nat.le_refl _, rfl⟩⟩
  intro d
  induction d using Nat.strongRecOn with
  | ind d ih =>
    intro n an sn fr ah hd hb hH han
    refine ⟨fun z => ?_, fun z => ?_⟩
    · rcases han with ⟨-, h1, h2⟩ | h1
      · exact hpost _ (hstop n h1 h2 hH.np) _ _ _
      · rw [h1] at z; exact absurd z (by decide)
    · -- clear ahead
      refine pk_loop (fun k i ah => p_M_far_66 R mo se ls st xa xb post (p_M_far_55 R mo se ls st xa xb post (d + 1)) k (nI n) 0 (nI i) sn fr ah) (fun i ah => ∀ x, x < i → ah x = 0) 8290 0 ah (Nat.zero_le _) (fun x hx => absurd hx (Nat.not_lt_zero _)) ?_ ?_
      · intro k ah hah
        refine ⟨fun _ => ?_, fun z => absurd (by decide) z⟩
        have hz : ∀ p, p < 265280 → hasb ah p = false := fun p hp => by
          unfold hasb
          rw [hah _ (by omega), tb_0]
        have hI0 : FI fol parts p0 n 0 0 0 sn ah := by
          refine ⟨fun p hp => ?_, fun p hp => ?_, fun q hq => absurd hq (Nat.not_lt_zero _), Or.inl ⟨rfl, hz⟩⟩
          · rw [hH.s p hp]
            exact ⟨Or.inl, fun z => z.elim id (fun ⟨q, d, _, _, c, _⟩ => by omega)⟩
          · rw [hz p hp]
            exact ⟨(fun y => by cases y), fun ⟨_, q, d, _, _, c, _⟩ => by omega⟩
        refine pk_loop (σ := Int32 × (Nat → Int32) × (Nat → Int32)) (fun k i z => p_M_far_91 R mo se ls st xa xb post (p_M_far_55 R mo se ls st xa xb post (d + 1)) k (nI n) z.1 (nI i) z.2.1 fr z.2.2) (fun i z => uns z.2.1 + (if z.1 = 0 then 0 else 1) ≤ uns sn ∧ FI fol parts p0 n (32 * i) 0 z.1 z.2.1 z.2.2) 8290 0 (0, sn, ah) (Nat.zero_le _) ⟨by dsimp only; rw [if_pos rfl]; exact Nat.le_refl _, hI0⟩ ?_ ?_
        · rintro k2 ⟨an', sn', ah'⟩ ⟨hu, hI⟩
          dsimp only at hu hI ⊢
          refine ⟨fun _ => ?_, fun z => absurd (by decide) z⟩
          -- the next level
          have hnext : ∀ p, p < 265280 → (hasb sn' p = true ↔ Rc fol p0 (n + 1) p) := fun p hp => by
            rw [hI.sn p hp]
            constructor
            · rintro (z | ⟨q, dd, a, b, c, e⟩)
              · exact z.mono (by omega)
              · rw [← e]; exact a.1.step b
            · intro z
              rcases z.back with y | ⟨q, c, hq, hc, e⟩
              · exact Or.inl y
              · by_cases hF : Fr fol p0 n q
                · have hlt := HL _ (Rc_V HV h0 n _ hq)
                  exact Or.inr ⟨q, c, hF, hc, Or.inl (by omega), e⟩
                · left
                  have : ∃ m, m < n ∧ Rc fol p0 m q := by
                    apply Classical.byContradiction
                    intro y
                    exact hF ⟨hq, fun m hm hr => y ⟨m, hm, hr⟩⟩
                  obtain ⟨m, hm, hr⟩ := this
                  rw [← e]
                  exact (hr.step hc).mono (by omega)
          have hfront : ∀ p, p < 265280 → (hasb ah' p = true ↔ Fr fol p0 (n + 1) p) := fun p hp => by
            rw [hI.aa p hp]
            constructor
            · rintro ⟨z, q, dd, a, b, c, e⟩
              refine ⟨by rw [← e]; exact a.1.step b, fun m hm hr => z (hr.mono (by omega))⟩
            · rintro ⟨z, hz2⟩
              refine ⟨hz2 n (by omega), ?_⟩
              rcases (hI.sn p hp).mp ((hnext p hp).mpr z) with y | y
              · exact absurd y (hz2 n (by omega))
              · exact y
          have hnp2 : ∀ p, (∃ m, m < n + 1 ∧ Rc fol p0 m p) → ¬ parts p := fun p ⟨m, hm, hr⟩ => by
            by_cases hF : Fr fol p0 n p
            · have hlt := HL _ (Rc_V HV h0 n _ hF.1)
              exact hI.np p (by omega) hF
            · refine hH.np p ?_
              apply Classical.byContradiction
              intro y
              have hrn := hr.mono (m := n) (by omega)
              exact hF ⟨hrn, fun m' hm' hr' => y ⟨m', hm', hr'⟩⟩
          refine pk_loop (fun k3 i fr => p_M_far_237 post (p_M_far_55 R mo se ls st xa xb post (d + 1)) k3 (nI n) an' (nI i) sn' fr ah') (fun i fr => ∀ x, x < i → fr x = ah' x) 8290 0 fr (Nat.zero_le _) (fun x hx => absurd hx (Nat.not_lt_zero _)) ?_ ?_
          · intro k3 fr3 hfr3
            refine ⟨fun _ => ?_, fun z => absurd (by decide) z⟩
            show p_M_far_55 R mo se ls st xa xb post (d + 1) (nI n + 1) an' sn' fr3 ah'
            rw [nI_1]
            have hH2 : FH fol parts p0 (n + 1) sn' fr3 := ⟨hnext, fun p hp => by
              have : hasb fr3 p = hasb ah' p := by unfold hasb; rw [hfr3 _ (by omega)]
              rw [this]; exact hfront p hp, hnp2⟩
            rcases hI.an with ⟨e1, e2⟩ | ⟨e1, p1, hp1, e2⟩
            · -- nothing new: the walk ends at once
              have hnoF : ∀ p, p < 265280 → ¬ Fr fol p0 (n + 1) p := fun p hp hF => by
                have := (hfront p hp).mpr hF
                rw [e2 p hp] at this; cases this
              exact ⟨fun _ => hpost _ (hstop (n + 1) (by omega) hnoF hnp2) _ _ _, fun z2 => absurd e1 z2⟩
            · rw [e1, if_neg (show ¬ (1 : Int32) = 0 by decide)] at hu
              have := ih (d - 1) (by omega) (n + 1) an' sn' fr3 ah' (by omega) (by omega) hH2 (Or.inr e1)
              rw [show d - 1 + 2 = d + 1 by omega] at this
              exact this
          · intro k3 i fr3 hi hfr3 hk3
            have hiv := vp_in_nI hi (by omega : 8290 < 2 ^ 31)
            refine ⟨fun z => absurd z (nI_ge (b := 8290) hi (by omega)), fun _ => ⟨hiv, hiv, ?_⟩⟩
            rw [nI_clamp (n := i) (by omega), nI_1]
            refine hk3 _ (fun x hx => ?_)
            by_cases e : x = i
            · subst e; rw [pk_us]
            · rw [pk_un e]; exact hfr3 x (by omega)
        · rintro k2 i ⟨an', sn', ah'⟩ hi ⟨hu, hI⟩ hk2
          dsimp only at hu hI hk2 ⊢
          refine ⟨fun z => absurd z (nI_ge (b := 8290) hi (by omega)), fun _ => ?_⟩
          refine q_far102 HV HL Hf Hp h0 (by omega) hi hH.f hH.np hI (fun hF _ _ => hpost _ hF _ _ _) (fun an2 sn2 ah2 hu2 hI2 => ?_)
          exact hk2 (an2, sn2, ah2) ⟨by dsimp only; omega, hI2⟩
      · intro k i ah hi hah hk
        refine ⟨fun z => absurd z (nI_ge (b := 8290) hi (by omega)), fun _ => ⟨vp_in_nI hi (by omega), ?_⟩⟩
        rw [nI_clamp (n := i) (by omega), nI_1]
        refine hk _ (fun x hx => ?_)
        by_cases e : x = i
        · subst e; rw [pk_us]
        · rw [pk_un e]; exact hah x (by omega)
theorem q_M_far {fol : Nat → Nat → Nat} {parts V : Nat → Prop} {R : Int32} {mo se ls st : Nat → Int32} {xa xb : Int32} (HV : ∀ p c, V p → c < 6 → V (fol p c)) (HL : ∀ p, V p → p < 265225) (Hf : ∀ p c (post : Int32 → Prop), V p → c < 6 → post (nI (fol p c)) → p_M_follow st xa xb (nI p) (nI c) post) (Hp : ∀ p (post : Int32 → Prop), V p → (parts p → post 1) → (¬ parts p → post 0) → p_M_parts R mo se ls xa xb (nI p) post) {p0 : Nat} (h0 : V p0) {sn fr ah : Nat → Int32} {post : _} (hpost : ∀ r, FarS fol parts p0 r → ∀ sn fr ah, post r sn fr ah) : p_M_far R sn fr ah mo se ls st xa xb (nI p0) post := by
  have hL := HL _ h0
  refine pk_loop (σ := (Nat → Int32) × (Nat → Int32)) (fun k i z => p_M_far_3 R mo se ls st xa xb (nI p0) post k (nI i) z.1 z.2 ah) (fun i z => ∀ x, x < i → z.1 x = 0 ∧ z.2 x = 0) 8290 0 (sn, fr) (Nat.zero_le _) (fun x hx => absurd hx (Nat.not_lt_zero _)) ?_ ?_
  · rintro k ⟨sn, fr⟩ hz
    dsimp only at hz ⊢
    refine ⟨fun _ => ?_, fun z => absurd (by decide) z⟩
    have z1 : ∀ p, p < 265280 → hasb sn p = false := fun p hp => by unfold hasb; rw [(hz _ (by omega)).1, tb_0]
    have z2 : ∀ p, p < 265280 → hasb fr p = false := fun p hp => by unfold hasb; rw [(hz _ (by omega)).2, tb_0]
    refine q_M_put (by omega) (fun sn1 h1 => q_M_put (by omega) (fun fr1 h2 => ⟨uns sn1 + 2, ?_⟩))
    have hR0 : ∀ p, Rc fol p0 0 p ↔ p = p0 := fun p => by
      constructor
      · rintro ⟨w, -, hl, e⟩
        have : w = [] := List.length_eq_zero_iff.mp (by omega)
        subst this
        exact e.symm
      · intro e; exact ⟨[], fun c hc => absurd hc (List.not_mem_nil), Nat.le_refl _, e.symm⟩
    have hub := uns_le sn1
    refine q_far55 HV HL Hf Hp h0 hpost (uns sn1) 0 1 sn1 fr1 ah (Nat.le_refl _) (by omega) ⟨fun p hp => ?_, fun p hp => ?_, fun p ⟨m, hm, _⟩ => absurd hm (Nat.not_lt_zero _)⟩ (Or.inr rfl)
    · rw [h1 p, z1 p hp, hR0]
      exact ⟨fun z => z.elim (fun y => by cases y) id, Or.inr⟩
    · rw [h2 p, z2 p hp]
      unfold Fr
      rw [hR0]
      exact ⟨fun z => z.elim (fun y => by cases y) (fun y => ⟨y, fun m hm => absurd hm (Nat.not_lt_zero _)⟩), fun z => Or.inr z.1⟩
  · rintro k i ⟨sn, fr⟩ hi hz hk
    dsimp only at hz hk ⊢
    have hiv := vp_in_nI hi (by omega : 8290 < 2 ^ 31)
    refine ⟨fun z => absurd z (nI_ge (b := 8290) hi (by omega)), fun _ => ⟨hiv, hiv, ?_⟩⟩
    rw [nI_clamp (n := i) (by omega), nI_1]
    refine hk (upd sn i 0, upd fr i 0) (fun x hx => ?_)
    dsimp only
    by_cases e : x = i
    · subst e; rw [pk_us, pk_us]; exact ⟨rfl, rfl⟩
    · rw [pk_un e, pk_un e]; exact hz x (by omega)