/-! The reference: distance, its loops -/
theorem q_dist183 {D : Md} (hD : DOk D) {M R : Nat} {many lt behind mo fs ls : Nat → Int32} (H : RefMd D M R many lt behind mo fs ls) {no se st : Nat → Int32} (hS : RS D M no se st) {post K63 : _} {m b0 : Nat} (hm : m < 1000) (hb : b0 < 1000) {co : Int32} {ma gr sa fr gs nw th : Nat → Int32} (hth : Mk D.au.N th (fun k => ∃ y, Nw (EA D.au) (WA D.au) m y ∧ EA D.au y k))
    (hp : ∀ (b' : Nat) nw', ((b' = b0 ∧ ¬ ∃ k y, Nw (EA D.au) (WA D.au) m y ∧ EA D.au y k ∧ WA D.au k) ∨ (b' = m + 1 ∧ ∃ k y, Nw (EA D.au) (WA D.au) m y ∧ EA D.au y k ∧ WA D.au k)) → Mk D.au.N nw' (Nw (EA D.au) (WA D.au) (m + 1)) →
      ((∀ x, ¬ Nw (EA D.au) (WA D.au) (m + 1) x) → post (nI b') co ma no se st gr sa fr gs nw' th) ∧ ((∃ x, Nw (EA D.au) (WA D.au) (m + 1) x) → K63 (nI b') (nI (m + 1) + 1) co ma no se st gr sa fr gs nw' th)) :
    ∃ k, p_M_distance_183 (nI R) mo ls (nI M) post K63 k (nI b0) (nI (m + 1)) 0 0 co ma no se st gr sa fr gs nw th := by
  have hA := au_ok hD
  have hle := hA.le
  have hM := H.hM
  have hmv := vp_in_nI hM (by omega : 3 < 2 ^ 31)
  refine pk_loop (σ := Nat × Int32 × (Nat → Int32)) (fun k i z => p_M_distance_183 (nI R) mo ls (nI M) post K63 k (nI z.1) (nI (m + 1)) z.2.1 (nI i) co ma no se st gr sa fr gs z.2.2 th) (fun i z => ((z.1 = b0 ∧ ¬ ∃ k, k < i ∧ (∃ y, Nw (EA D.au) (WA D.au) m y ∧ EA D.au y k) ∧ WA D.au k) ∨ (z.1 = m + 1 ∧ ∃ k, k < i ∧ (∃ y, Nw (EA D.au) (WA D.au) m y ∧ EA D.au y k) ∧ WA D.au k)) ∧ Mk i z.2.2 (Nw (EA D.au) (WA D.au) (m + 1)) ∧ ((z.2.1 = 0 ∧ ¬ ∃ k, k < i ∧ Nw (EA D.au) (WA D.au) (m + 1) k) ∨ (z.2.1 = 1 ∧ ∃ k, k < i ∧ Nw (EA D.au) (WA D.au) (m + 1) k))) D.au.N 0 (b0, 0, nw) (Nat.zero_le _) ⟨Or.inl ⟨rfl, fun ⟨k, hk, _⟩ => absurd hk (Nat.not_lt_zero _)⟩, fun k hk => absurd hk (Nat.not_lt_zero _), Or.inl ⟨rfl, fun ⟨k, hk, _⟩ => absurd hk (Nat.not_lt_zero _)⟩⟩ ?_ ?_
  · rintro k ⟨b', an, nw'⟩ ⟨h1, h2, h3⟩
    dsimp only at h1 h2 h3 ⊢
    refine ⟨hmv, ?_⟩
    rw [nI_clamp (n := M) (by omega), hS.no]
    refine ⟨fun _ => ?_, fun z => absurd (nI_le (Nat.le_refl _) (by omega)) z⟩
    have hq := hp b' nw' (by
      rcases h1 with ⟨a, b⟩ | ⟨a, k, hk, ⟨y, hy, hE⟩, hW⟩
      · exact Or.inl ⟨a, fun ⟨k, y, hy, hE, hW⟩ => b ⟨k, hE.2.1, ⟨y, hy, hE⟩, hW⟩⟩
      · exact Or.inr ⟨a, k, y, hy, hE, hW⟩) h2
    refine ⟨fun z => hq.2 ?_, fun z => hq.1 ?_⟩
    · rcases h3 with ⟨a, b⟩ | ⟨a, k, hk, hN⟩
      · exact absurd a z
      · exact ⟨k, hN⟩
    · rcases h3 with ⟨a, b⟩ | ⟨a, k, hk, hN⟩
      · exact fun x hx => b ⟨x, Nw_lt hx, hx⟩
      · rw [a] at z; exact absurd z (by decide)
  · rintro k i ⟨b', an, nw'⟩ hi ⟨h1, h2, h3⟩ hk
    dsimp only at h1 h2 h3 hk ⊢
    have hi5 : vp_in (nI i) 514 := vp_in_nI (by omega) (by omega)
    have han : an = 0 ∨ an = 1 := h3.elim (fun z => Or.inl z.1) (fun z => Or.inr z.1)
    refine ⟨hmv, ?_⟩
    rw [nI_clamp (n := M) (by omega), hS.no, nI_clamp (n := i) (by omega)]
    refine ⟨fun z => absurd z (nI_ge hi (by omega)), fun _ => q_M_winsN hD H hS hi ?_⟩
    have hti := hth i hi
    -- the next state of the loop
    have hstep : ∀ nv : Int32, (nv = 0 ∨ nv = 1) → (nv = 0 ↔ ¬ Nw (EA D.au) (WA D.au) (m + 1) i) → ∀ b2, ((b2 = b' ∧ ¬ ((∃ y, Nw (EA D.au) (WA D.au) m y ∧ EA D.au y i) ∧ WA D.au i)) ∨ (b2 = m + 1 ∧ ((∃ y, Nw (EA D.au) (WA D.au) m y ∧ EA D.au y i) ∧ WA D.au i))) → p_M_distance_183 (nI R) mo ls (nI M) post K63 k (nI b2) (nI (m + 1)) (if an = 0 ∧ nv = 0 then 0 else 1) (nI i + 1) co ma no se st gr sa fr gs (upd nw' i nv) th := by
      intro nv hnv hnw b2 hb2
      rw [nI_1]
      refine hk (b2, (if an = 0 ∧ nv = 0 then 0 else 1), upd nw' i nv) ⟨?_, fun k hk => ?_, ?_⟩
      · dsimp only
        rcases hb2 with ⟨e, hn⟩ | ⟨e, hy⟩
        · subst e
          rcases h1 with ⟨a, b⟩ | ⟨a, k, hk, hr⟩
          · refine Or.inl ⟨a, fun ⟨k, hk, hr⟩ => ?_⟩
            by_cases y : k = i
            · subst y; exact hn hr
            · exact b ⟨k, by omega, hr⟩
          · exact Or.inr ⟨a, k, by omega, hr⟩
        · exact Or.inr ⟨e, i, by omega, hy⟩
      · dsimp only
        by_cases y : k = i
        · subst y; rw [pk_us]; exact hnw
        · rw [pk_un y]; exact h2 k (by omega)
      · dsimp only
        rcases h3 with ⟨a, b⟩ | ⟨a, k, hk, hN⟩
        · rcases hnv with z | z
          · refine Or.inl ⟨if_pos ⟨a, z⟩, fun ⟨k, hk, hN⟩ => ?_⟩
            by_cases y : k = i
            · subst y; exact hnw.mp z hN
            · exact b ⟨k, by omega, hN⟩
          · refine Or.inr ⟨if_neg (fun q => by rw [z] at q; exact absurd q.2 (by decide)), i, by omega, ?_⟩
            apply Classical.byContradiction
            intro y
            rw [hnw.mpr y] at z
            exact absurd z (by decide)
        · refine Or.inr ⟨if_neg (fun q => by rw [a] at q; exact absurd q.1 (by decide)), k, by omega, hN⟩
    have hnot : ∀ {p : Prop}, ¬ p → ¬ ¬ p → False := fun a b => b a
    refine ⟨fun hw => ⟨hi5, ?_⟩, fun hw => ⟨hi5, ?_⟩⟩
    · -- no winner
      have hWn : ¬ WA D.au i := fun z => z.2 hw
      have h231 : p_M_distance_231 post K63 (p_M_distance_183 (nI R) mo ls (nI M) post K63 k) (nI b') (nI (m + 1)) an (nI i) 0 co ma no se st gr sa fr gs nw' th := by
        refine q_dist231 hD H hS (by omega) han (fun nv hnv => hstep nv ?_ ?_ b' (Or.inl ⟨rfl, fun z => hWn z.2⟩))
        · rw [hnv]; split
          · exact Or.inr rfl
          · exact Or.inl rfl
        · rw [hnv]
          by_cases z : th i = 0
          · rw [if_neg (fun q => q.1 z)]
            exact ⟨fun _ q => hti.mp z q.1, fun _ => rfl⟩
          · rw [if_pos ⟨z, rfl⟩]
            refine ⟨fun q => absurd q (by decide), fun q => absurd ⟨Classical.byContradiction (fun y => z (hti.mpr y)), hWn⟩ q⟩
      exact ⟨fun _ => h231, fun _ => h231⟩
    · have hWy : WA D.au i := ⟨hi, hw⟩
      have hnN : ¬ Nw (EA D.au) (WA D.au) (m + 1) i := fun q => q.2 hWy
      refine ⟨fun z => ?_, fun z => ?_⟩
      · refine q_dist231 hD H hS (by omega) han (fun nv hnv => hstep nv ?_ ?_ b' (Or.inl ⟨rfl, fun y => hti.mp z y.1⟩))
        · rw [hnv, if_neg (fun q => q.1 z)]; exact Or.inl rfl
        · rw [hnv, if_neg (fun q => q.1 z)]; exact ⟨fun _ => hnN, fun _ => rfl⟩
      · have hTh : ∃ y, Nw (EA D.au) (WA D.au) m y ∧ EA D.au y i := Classical.byContradiction (fun y => z (hti.mpr y))
        have hn := hstep 0 (Or.inl rfl) ⟨fun _ => hnN, fun _ => rfl⟩ (m + 1) (Or.inr ⟨rfl, hTh, hWy⟩)
        rw [nar0]
        refine ⟨hi5, fun y => absurd y z, fun _ => ⟨hi5, fun y => ?_, fun y => ⟨hi5, fun _ => ?_, fun q => absurd pk_us q⟩⟩⟩
        · rw [if_neg (fun q => y q.1)] at hn; exact hn
        · rw [if_pos ⟨y, rfl⟩] at hn; exact hn
theorem q_dist109 {D : Md} (hD : DOk D) {M R : Nat} {many lt behind mo fs ls : Nat → Int32} (H : RefMd D M R many lt behind mo fs ls) {no se st : Nat → Int32} (hS : RS D M no se st) {post K63 : _} {m : Nat} {l2 l3 co : Int32} {ma gr sa fr gs nw th : Nat → Int32} (hnw : Mk D.au.N nw (Nw (EA D.au) (WA D.au) m)) (hth : ∀ k, k < D.au.N → th k = 0)
    (hp : ∀ th', Mk D.au.N th' (fun k => ∃ y, Nw (EA D.au) (WA D.au) m y ∧ EA D.au y k) → p_M_distance_180 (nI R) mo ls (nI M) post K63 l2 l3 0 co ma no se st gr sa fr gs nw th') :
    ∃ k, p_M_distance_109 (nI R) mo ls (nI M) post K63 k l2 l3 0 0 co ma no se st gr sa fr gs nw th := by
  have hA := au_ok hD
  have hle := hA.le
  have hM := H.hM
  have hmv := vp_in_nI hM (by omega : 3 < 2 ^ 31)
  refine pk_loop (fun k i th => p_M_distance_109 (nI R) mo ls (nI M) post K63 k l2 l3 0 (nI i) co ma no se st gr sa fr gs nw th) (fun i th => Mk D.au.N th (fun k => ∃ y, y < i ∧ Nw (EA D.au) (WA D.au) m y ∧ EA D.au y k)) D.au.N 0 th (Nat.zero_le _) (fun k hk => ⟨fun _ ⟨y, hy, _⟩ => absurd hy (Nat.not_lt_zero _), fun _ => hth k hk⟩) ?_ ?_
  · intro k th hI
    refine ⟨hmv, ?_⟩
    rw [nI_clamp (n := M) (by omega), hS.no]
    refine ⟨fun _ => hp th (fun k hk => ?_), fun z => absurd (nI_le (Nat.le_refl _) (by omega)) z⟩
    rw [hI k hk]
    exact ⟨fun q ⟨y, h1, h2⟩ => q ⟨y, h2.1, h1, h2⟩, fun q ⟨y, _, h1, h2⟩ => q ⟨y, h1, h2⟩⟩
  · intro k i th hi hI hk
    refine ⟨hmv, ?_⟩
    rw [nI_clamp (n := M) (by omega), hS.no]
    refine ⟨fun z => absurd z (nI_ge hi (by omega)), fun _ => ?_⟩
    have hi5 : vp_in (nI i) 514 := vp_in_nI (by omega) (by omega)
    by_cases hN : Nw (EA D.au) (WA D.au) m i
    · have hnz : ¬ nw i = 0 := fun z => (hnw i hi).mp z hN
      refine pk_loop (fun q c th => p_M_distance_123 (nI M) post K63 (p_M_distance_109 (nI R) mo ls (nI M) post K63 k) q l2 l3 0 (nI i) (nI c) co ma no se st gr sa fr gs nw th) (fun c th => Mk D.au.N th (fun k => (∃ y, y < i ∧ Nw (EA D.au) (WA D.au) m y ∧ EA D.au y k) ∨ (k ≠ 0 ∧ ∃ d, d < c ∧ D.au.to i d = k))) 6 0 th (Nat.zero_le _) (fun k hk => by
          rw [hI k hk]
          exact ⟨fun q z => z.elim q (fun ⟨_, d, hd, _⟩ => absurd hd (Nat.not_lt_zero _)), fun q z => q (Or.inl z)⟩) ?_ ?_
      · intro q th hJ
        refine ⟨fun _ => ?_, fun z => absurd (by decide) z⟩
        show p_M_distance_109 (nI R) mo ls (nI M) post K63 k l2 l3 0 (nI i + 1) co ma no se st gr sa fr gs nw th
        rw [nI_1]
        refine hk th (fun k hk => ?_)
        rw [hJ k hk]
        constructor
        · rintro q ⟨y, hy, h1, h2⟩
          by_cases e : y = i
          · subst e
            obtain ⟨-, -, h3, c, hc, e2⟩ := h2
            exact q (Or.inr ⟨h3, c, hc, e2⟩)
          · exact q (Or.inl ⟨y, by omega, h1, h2⟩)
        · rintro q (⟨y, hy, h1, h2⟩ | ⟨h3, c, hc, e2⟩)
          · exact q ⟨y, by omega, h1, h2⟩
          · exact q ⟨i, by omega, hN, hi, hk, h3, c, hc, e2⟩
      · intro q c th hc hJ hm
        refine ⟨fun z => absurd z (nI_ge (b := 6) hc (by omega)), fun _ => ⟨hi5, ?_⟩⟩
        rw [nI_clamp (n := i) (by omega)]
        refine ⟨fun z => absurd z hnz, fun _ => q_M_go hA hM hS hi hc ⟨fun z => ?_, fun z => q_M_go hA hM hS hi hc ?_⟩⟩
        · have h0 : D.au.to i c = 0 := by
            apply Classical.byContradiction
            intro y
            rw [gT_n y] at z
            have := hA.to i c hi hc
            exact nI_nm1 (by omega) z
          show p_M_distance_123 (nI M) post K63 _ q l2 l3 0 (nI i) (nI c + 1) co ma no se st gr sa fr gs nw th
          rw [nI_1]
          refine hm th (fun k hk => ?_)
          rw [hJ k hk]
          constructor
          · rintro q (z1 | ⟨h3, d, hd, e⟩)
            · exact q (Or.inl z1)
            · by_cases y : d = c
              · subst y; omega
              · exact q (Or.inr ⟨h3, d, by omega, e⟩)
          · rintro q (z1 | ⟨h3, d, hd, e⟩)
            · exact q (Or.inl z1)
            · exact q (Or.inr ⟨h3, d, by omega, e⟩)
        · have h0 : D.au.to i c ≠ 0 := fun y => z (gT_0 y)
          have ht := hA.to i c hi hc
          rw [gT_n h0, nI_clamp (n := D.au.to i c) (by omega), nar1]
          refine ⟨vp_in_nI (by omega) (by omega), ?_⟩
          show p_M_distance_123 (nI M) post K63 _ q l2 l3 0 (nI i) (nI c + 1) co ma no se st gr sa fr gs nw _
          rw [nI_1]
          refine hm _ (fun k hk => ?_)
          by_cases e : k = D.au.to i c
          · subst e
            rw [pk_us]
            exact ⟨fun y => absurd y (by decide), fun y => absurd (Or.inr ⟨h0, c, by omega, rfl⟩) y⟩
          · rw [pk_un e, hJ k hk]
            constructor
            · rintro q (z1 | ⟨h3, d, hd, e2⟩)
              · exact q (Or.inl z1)
              · by_cases y : d = c
                · subst y; exact e e2.symm
                · exact q (Or.inr ⟨h3, d, by omega, e2⟩)
            · rintro q (z1 | ⟨h3, d, hd, e2⟩)
              · exact q (Or.inl z1)
              · exact q (Or.inr ⟨h3, d, by omega, e2⟩)
    · have hz : nw i = 0 := (hnw i hi).mpr hN
      refine ⟨1, fun z => absurd z (by decide), fun _ => ⟨hi5, fun _ => ?_, fun z => absurd (by rw [nI_clamp (by omega)]; exact hz) z⟩⟩
      show p_M_distance_109 (nI R) mo ls (nI M) post K63 k l2 l3 0 (nI i + 1) co ma no se st gr sa fr gs nw th
      rw [nI_1]
      refine hk th (fun k hk => ?_)
      rw [hI k hk]
      constructor
      · rintro q ⟨y, hy, h1, h2⟩
        by_cases e : y = i
        · subst e; exact hN h1
        · exact q ⟨y, by omega, h1, h2⟩
      · rintro q ⟨y, hy, h1, h2⟩
        exact q ⟨y, by omega, h1, h2⟩
theorem q_dist22 {D : Md} (hD : DOk D) {M R : Nat} {many lt behind mo fs ls : Nat → Int32} (H : RefMd D M R many lt behind mo fs ls) {no se st : Nat → Int32} (hS : RS D M no se st) {r : Int32} (hG : GapS (EA D.au) (WA D.au) D.au.N r) {post : _} {co : Int32} {ma gr sa fr gs nw th : Nat → Int32} (hp : ∀ nw' th', post r co ma no se st gr sa fr gs nw' th') :
    ∃ k, p_M_distance_22 (nI R) mo ls (nI M) post k 0 co ma no se st gr sa fr gs nw th := by
  have hA := au_ok hD
  have hle := hA.le
  have hM := H.hM
  have hmv := vp_in_nI hM (by omega : 3 < 2 ^ 31)
  refine pk_loop (fun k i nw => p_M_distance_22 (nI R) mo ls (nI M) post k (nI i) co ma no se st gr sa fr gs nw th) (fun i nw => Mk i nw (Nw (EA D.au) (WA D.au) 0)) D.au.N 0 nw (Nat.zero_le _) (fun k hk => absurd hk (Nat.not_lt_zero _)) ?_ ?_
  · intro k nw hI
    refine ⟨hmv, ?_⟩
    rw [nI_clamp (n := M) (by omega), hS.no]
    refine ⟨fun _ => ?_, fun z => absurd (nI_le (Nat.le_refl _) (by omega)) z⟩
    have key : ∀ (d m b : Nat) (nw th : Nat → Int32), m + d = D.au.N + 1 → b ≤ m → BM D.au (m + 1) b → Mk D.au.N nw (Nw (EA D.au) (WA D.au) m) → (0 < m → ∃ x, Nw (EA D.au) (WA D.au) m x) → p_M_distance_63 (nI R) mo ls (nI M) post (d + 1) (nI b) (nI (m + 1)) co ma no se st gr sa fr gs nw th := by
      intro d
      induction d with
      | zero =>
        intro m b nw th hd hbm hB hnw hex
        refine ⟨hmv, ?_⟩
        rw [nI_clamp (n := M) (by omega), hS.no, nI_1]
        refine ⟨fun _ => ?_, fun z => absurd (nI_lt (by omega) (by omega)) z⟩
        rcases hG with ⟨e, -⟩ | ⟨b', -, -, -, he⟩
        · rw [← e]; exact hp _ _
        · obtain ⟨x, hx⟩ := hex (by omega)
          rw [show m = D.au.N + 1 by omega] at hx
          exact absurd hx (he x)
      | succ d ih =>
        intro m b nw th hd hbm hB hnw hex
        refine ⟨hmv, ?_⟩
        rw [nI_clamp (n := M) (by omega), hS.no, nI_1]
        refine ⟨fun z => absurd z (nI_nlt (by omega) (by omega)), fun _ => ?_⟩
        refine pk_loop (fun q i th => p_M_distance_81 (nI R) mo ls (nI M) post (p_M_distance_63 (nI R) mo ls (nI M) post (d + 1)) q (nI b) (nI (m + 1)) 0 (nI i) co ma no se st gr sa fr gs nw th) (fun i th => ∀ k, k < i → th k = 0) D.au.N 0 th (Nat.zero_le _) (fun k hk => absurd hk (Nat.not_lt_zero _)) ?_ ?_
        · intro q th hth
          refine ⟨hmv, ?_⟩
          rw [nI_clamp (n := M) (by omega), hS.no]
          refine ⟨fun _ => ?_, fun z => absurd (nI_le (Nat.le_refl _) (by omega)) z⟩
          refine q_dist109 hD H hS hnw hth (fun th' hth' => ?_)
          refine q_dist183 hD H hS (by omega) (by omega) hth' (fun b' nw' hb' hnw' => ⟨fun hno => ?_, fun hsome => ?_⟩)
          · -- nothing is between any more
            rcases hG with ⟨-, h⟩ | ⟨b2, -, e, ⟨g1, g2⟩, -⟩
            · obtain ⟨x, hx⟩ := h (m + 1)
              exact absurd hx (hno x)
            · have heq : b' = b2 := by
                have hall : ∀ m0 y x, Nw (EA D.au) (WA D.au) m0 y → EA D.au y x → WA D.au x → m0 + 1 ≤ b' := fun m0 y x a1 a2 a3 => by
                  rcases Nat.lt_or_ge m0 m with z | z
                  · have := hB.2 m0 y x (by omega) a1 a2 a3
                    rcases hb' with ⟨e2, -⟩ | ⟨e2, -⟩ <;> omega
                  · rcases Nat.eq_or_lt_of_le z with z2 | z2
                    · subst z2
                      rcases hb' with ⟨-, e2⟩ | ⟨e2, -⟩
                      · exact absurd ⟨x, y, a1, a2, a3⟩ e2
                      · omega
                    · have := Nw_empty hno (m0 - (m + 1)) y
                      rw [show m + 1 + (m0 - (m + 1)) = m0 by omega] at this
                      exact absurd a1 this
                have hle1 : b2 ≤ b' := by
                  rcases g1 with z | ⟨m0, y, x, e2, a1, a2, a3⟩
                  · omega
                  · have := hall m0 y x a1 a2 a3; omega
                have hle2 : b' ≤ b2 := by
                  rcases hb' with ⟨e2, -⟩ | ⟨e2, k, y, a1, a2, a3⟩
                  · rcases hB.1 with z | ⟨m0, y, x, e3, -, a1, a2, a3⟩
                    · omega
                    · have := g2 m0 y x a1 a2 a3; omega
                  · have := g2 m y k a1 a2 a3; omega
                omega
              rw [heq, ← e]
              exact hp _ _
          · rw [nI_1]
            refine ih (m + 1) b' nw' th' (by omega) ?_ ⟨?_, fun m0 y x h1 a1 a2 a3 => ?_⟩ hnw' (fun _ => hsome)
            · rcases hb' with ⟨e2, -⟩ | ⟨e2, -⟩ <;> omega
            · rcases hb' with ⟨e2, -⟩ | ⟨e2, k, y, a1, a2, a3⟩
              · rcases hB.1 with z | ⟨m0, y, x, e3, h3, a1, a2, a3⟩
                · exact Or.inl (by omega)
                · exact Or.inr ⟨m0, y, x, by omega, by omega, a1, a2, a3⟩
              · exact Or.inr ⟨m, y, k, e2, by omega, a1, a2, a3⟩
            · rcases Nat.lt_or_ge m0 m with z | z
              · have := hB.2 m0 y x (by omega) a1 a2 a3
                rcases hb' with ⟨e2, -⟩ | ⟨e2, -⟩ <;> omega
              · have : m0 = m := by omega
                subst this
                rcases hb' with ⟨-, e2⟩ | ⟨e2, -⟩
                · exact absurd ⟨x, y, a1, a2, a3⟩ e2
                · omega
        · intro q i th hi hth hm
          refine ⟨hmv, ?_⟩
          rw [nI_clamp (n := M) (by omega), hS.no, nI_clamp (n := i) (by omega), nI_1, nar0]
          refine ⟨fun z => absurd z (nI_ge hi (by omega)), fun _ => ⟨vp_in_nI (by omega) (by omega), hm _ (fun k hk => ?_)⟩⟩
          by_cases e : k = i
          · subst e; rw [pk_us]
          · rw [pk_un e]; exact hth k (by omega)
    refine ⟨D.au.N + 1 + 1, ?_⟩
    exact key (D.au.N + 1) 0 0 nw th (by omega) (Nat.le_refl _) ⟨Or.inl rfl, fun m0 y x h => absurd h (by omega)⟩ hI (fun z => absurd z (Nat.lt_irrefl _))
  · intro k i nw hi hI hk
    have hi5 : vp_in (nI i) 514 := vp_in_nI (by omega) (by omega)
    refine ⟨hmv, ?_⟩
    rw [nI_clamp (n := M) (by omega), hS.no, nI_clamp (n := i) (by omega), nI_1, nar0, nar1]
    refine ⟨fun z => absurd z (nI_ge hi (by omega)), fun _ => q_M_winsN hD H hS hi ⟨fun e => ⟨hi5, hk _ (fun k hk => ?_)⟩, fun e => ⟨hi5, hk _ (fun k hk => ?_)⟩⟩⟩
    · by_cases y : k = i
      · subst y; rw [pk_us]
        exact ⟨fun _ z => z.2 e, fun _ => rfl⟩
      · rw [pk_un y]; exact hI k (by omega)
    · by_cases y : k = i
      · subst y; rw [pk_us]
        exact ⟨fun z => absurd z (by decide), fun z => absurd ⟨hi, e⟩ z⟩
      · rw [pk_un y]; exact hI k (by omega)