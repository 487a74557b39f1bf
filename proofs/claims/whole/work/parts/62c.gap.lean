/-! The widest gap: countWaysIn, widest -/
theorem q_count62 {n : Nat} {fa fw : Nat → Int32} {tr : Nat → Nat → Option Nat} {w : Nat → Prop} (Q : QM n fa fw tr w) {b wd : Nat} {bt : Nat → Nat} (F : FB n tr w b bt wd) {be wi se : Nat → Int32} (hbe : ∀ i, i < b → be i = nI (bt i)) (hwi : ∀ i, i < b → wi (bt i) = nI (dg tr bt b (fun _ => false) (bt i))) {post : Int32 → (Nat → Int32) → (Nat → Int32) → Prop}
    (hp : ∀ (q : Nat) (ps : Nat → Nat) (se' : Nat → Int32), (∀ j, j < q → ps j < b) → (∀ i j, i < q → j < q → ps i = ps j → i = j) → (∀ j, j < q → se' j = nI (bt (ps j))) → (∀ i, i < b → ((∃ j, j < q ∧ ps j = i) ↔ dg tr bt b (fun _ => false) (bt i) = 0)) → post (nI q) wi se') : ∃ k, p_GapFinder_countWaysIn_62 (nI b) n be n n post k 0 0 wi se := by
  have hle := Q.le
  have hbn : b ≤ n := inj_le F.bn F.inj
  refine pk_loop (σ := Nat × (Nat → Nat) × (Nat → Int32)) (fun k i z => p_GapFinder_countWaysIn_62 (nI b) n be n n post k (nI i) (nI z.1) wi z.2.2) (fun i z => (∀ j, j < z.1 → z.2.1 j < i) ∧ (∀ i j, i < z.1 → j < z.1 → z.2.1 i = z.2.1 j → i = j) ∧ (∀ j, j < z.1 → z.2.2 j = nI (bt (z.2.1 j))) ∧ (∀ i', i' < i → ((∃ j, j < z.1 ∧ z.2.1 j = i') ↔ dg tr bt b (fun _ => false) (bt i') = 0))) b 0 (0, id, se) (Nat.zero_le _) ⟨fun j hj => absurd hj (Nat.not_lt_zero _), fun j _ hj => absurd hj (Nat.not_lt_zero _), fun j hj => absurd hj (Nat.not_lt_zero _), fun j hj => absurd hj (Nat.not_lt_zero _)⟩ ?_ ?_
  · rintro k ⟨q, ps, se'⟩ ⟨h1, h2, h3, h4⟩
    exact ⟨fun _ => hp q ps se' h1 h2 h3 h4, fun z => absurd (nI_le (Nat.le_refl _) (by omega)) z⟩
  · rintro k i ⟨q, ps, se'⟩ hi ⟨h1, h2, h3, h4⟩ hk
    dsimp only at h1 h2 h3 h4 hk ⊢
    have hq : q ≤ i := inj_le h1 h2
    have hbi := F.bn i hi
    have hdl := dg_le (tr := tr) (bt := bt) (b := b) (pr := fun _ => false) (bt i)
    refine ⟨fun z => absurd z (nI_ge hi (by omega)), fun _ => ?_⟩
    rw [nI_clamp (n := i) (by omega), hbe i hi, nI_clamp (n := bt i) (by omega), hwi i hi, nI_1]
    have hii : vp_in (nI i) n := vp_in_nI (by omega) (by omega)
    refine ⟨hii, vp_in_nI hbi (by omega), fun z => ?_, fun z => ⟨hii, vp_in_nI (by omega) (by omega), ?_⟩⟩
    · refine hk (q, ps, se') ⟨fun j hj => Nat.lt_succ_of_lt (h1 j hj), h2, h3, fun i' hi' => ?_⟩
      by_cases e : i' = i
      · subst e
        refine ⟨fun ⟨j, hj, ej⟩ => absurd (h1 j hj) (by dsimp only at ej; omega), fun y => absurd (by rw [y]; rfl) z⟩
      · exact h4 i' (by omega)
    · have hd0 : dg tr bt b (fun _ => false) (bt i) = 0 := (nI_eq (b := 0) (by omega) (by omega)).mp z
      rw [nI_clamp (n := q) (by omega), nI_1]
      refine hk (q + 1, updN ps q i, upd se' q (nI (bt i))) ⟨fun j hj => ?_, fun a c ha hc e => ?_, fun j hj => ?_, fun i' hi' => ?_⟩
      · dsimp only at hj ⊢
        by_cases y : j = q
        · subst y; rw [updN_s]; omega
        · rw [updN_n y]; have := h1 j (by omega); omega
      · dsimp only at ha hc e
        by_cases y1 : a = q <;> by_cases y2 : c = q
        · omega
        · subst y1; rw [updN_s, updN_n y2] at e; exact absurd (h1 c (by omega)) (by omega)
        · subst y2; rw [updN_s, updN_n y1] at e; exact absurd (h1 a (by omega)) (by omega)
        · rw [updN_n y1, updN_n y2] at e; exact h2 a c (by omega) (by omega) e
      · dsimp only at hj ⊢
        by_cases y : j = q
        · subst y; rw [updN_s, pk_us]
        · rw [updN_n y, pk_un y]; exact h3 j (by omega)
      · dsimp only
        by_cases e : i' = i
        · subst e
          exact ⟨fun _ => hd0, fun _ => ⟨q, by omega, updN_s⟩⟩
        · rw [← h4 i' (by omega)]
          constructor
          · rintro ⟨j, hj, ej⟩
            by_cases y : j = q
            · subst y; rw [updN_s] at ej; exact absurd ej.symm e
            · rw [updN_n y] at ej; exact ⟨j, by omega, ej⟩
          · rintro ⟨j, hj, ej⟩
            exact ⟨j, by omega, by rw [updN_n (by omega)]; exact ej⟩
theorem q_count {n : Nat} {fa fw : Nat → Int32} {tr : Nat → Nat → Option Nat} {w : Nat → Prop} (Q : QM n fa fw tr w) {b wd : Nat} {bt : Nat → Nat} (F : FB n tr w b bt wd) {be se : Nat → Int32} (hbe : ∀ i, i < b → be i = nI (bt i)) {post : Int32 → (Nat → Int32) → (Nat → Int32) → Prop}
    (hp : ∀ (q : Nat) (ps : Nat → Nat) (wi' se' : Nat → Int32), (∀ i, i < b → wi' (bt i) = nI (dg tr bt b (fun _ => false) (bt i))) → (∀ j, j < q → ps j < b) → (∀ i j, i < q → j < q → ps i = ps j → i = j) → (∀ j, j < q → se' j = nI (bt (ps j))) → (∀ i, i < b → ((∃ j, j < q ∧ ps j = i) ↔ dg tr bt b (fun _ => false) (bt i) = 0)) → post (nI q) wi' se') :
    p_GapFinder_countWaysIn (nI b) 0 n be n (6 * n) fa n (fun _ => 0) n se post := by
  have hle := Q.le
  have hbn : b ≤ n := inj_le F.bn F.inj
  let sm : Nat → Nat → Nat := fun x m => sumF (fun e => if (false = false) ∧ ed tr bt e = some x then 1 else 0) m
  have hsl : ∀ x m, sm x m ≤ m := fun x m => sum_le (fun e => by split <;> omega) m
  refine pk_loop (fun k i wi => p_GapFinder_countWaysIn_2 (nI b) n be n (6 * n) fa n n post k (nI i) 0 wi se) (fun i wi => ∀ x, x < n → wi x = nI (sm x (6 * i))) b 0 (fun _ => 0) (Nat.zero_le _) (fun x hx => rfl) ?_ ?_
  · intro k wi hI
    refine ⟨fun _ => ?_, fun z => absurd (nI_le (Nat.le_refl _) (by omega)) z⟩
    have hw : ∀ i, i < b → wi (bt i) = nI (dg tr bt b (fun _ => false) (bt i)) := fun i hi => hI _ (F.bn i hi)
    exact q_count62 Q F hbe hw (fun q ps se' h1 h2 h3 h4 => hp q ps wi se' hw h1 h2 h3 h4)
  · intro k i wi hi hI hk
    refine ⟨fun z => absurd z (nI_ge hi (by omega)), fun _ => ?_⟩
    have hbi := F.bn i hi
    refine pk_loop (fun m c wi => p_GapFinder_countWaysIn_12 n be n (6 * n) fa n post (p_GapFinder_countWaysIn_2 (nI b) n be n (6 * n) fa n n post k) m (nI i) (nI c) 0 wi se) (fun c wi => ∀ x, x < n → wi x = nI (sm x (6 * i + c))) 6 0 wi (Nat.zero_le _) hI ?_ ?_
    · intro m wi hJ
      refine ⟨fun _ => ?_, fun z => absurd (by decide) z⟩
      show p_GapFinder_countWaysIn_2 (nI b) n be n (6 * n) fa n n post k (nI i + 1) 0 wi se
      rw [nI_1]
      exact hk wi hJ
    · intro m c wi hc hJ hm
      refine ⟨fun z => absurd z (nI_ge (b := 6) hc (by omega)), fun _ => ⟨vp_in_nI (by omega) (by omega), ?_⟩⟩
      rw [nI_clamp (n := i) (by omega), hbe i hi, nI_1]
      have hed : ed tr bt (6 * i + c) = tr (bt i) c := by
        unfold ed
        rw [show (6 * i + c) / 6 = i by omega, show (6 * i + c) % 6 = c by omega]
      have hsm : ∀ x, sm x (6 * i + (c + 1)) = sm x (6 * i + c) + (if tr (bt i) c = some x then 1 else 0) := fun x => by
        show sumF _ (6 * i + c + 1) = _
        unfold sumF
        rw [hed]
        simp [sm]
      refine q_step Q hbi hc (fun hnone => ⟨fun _ => hm wi (fun x hx => ?_), fun z => absurd rfl z⟩) (fun y hy hyn => ⟨fun z => absurd z (nI_nm1 (by omega)), fun _ => ?_⟩)
      · rw [hsm, hnone, if_neg (by intro q; cases q)]; exact hJ x hx
      · have hyi := vp_in_nI hyn (by omega)
        rw [nI_clamp (n := y) (by omega), hJ y hyn, nI_1]
        refine ⟨hyi, hyi, hm _ (fun x hx => ?_)⟩
        rw [hsm, hy]
        by_cases e : x = y
        · subst e; rw [pk_us, if_pos rfl]
        · rw [pk_un e, if_neg (fun q => e (Option.some.inj q).symm)]; exact hJ x hx
theorem q_widest70 {n : Nat} {fa fw : Nat → Int32} {tr : Nat → Nat → Option Nat} {w : Nat → Prop} (Q : QM n fa fw tr w) {b wd : Nat} {bt : Nat → Nat} (F : FB n tr w b bt wd) {be far iB se : Nat → Int32} (hbe : ∀ i, i < b → be i = nI (bt i)) (hfar : ∀ i, i < b → far (bt i) = 1) {post : Int32 → Int32 → Int32 → Int32 → (Nat → Int32) → (Nat → Int32) → (Nat → Int32) → (Nat → Int32) → (Nat → Int32) → Prop}
    (hp : ∀ r a1 a2 a3 a4 a5 a6 a7 a8, GapS (Ed n tr) (Wn n w) n r → post r a1 a2 a3 a4 a5 a6 a7 a8) : p_GapFinder_widest_70 n fw (6 * n) fa n n n n post (nI b) 0 (nI wd) iB far be (fun _ => 0) se := by
  have hle := Q.le
  have hbn : b ≤ n := inj_le F.bn F.inj
  refine q_count Q F hbe (fun q ps wi se hwi hpb hpi hse hst => ?_)
  have key : ∀ (d p q : Nat) (ps : Nat → Nat) (pr : Nat → Bool) (fv : Nat → Nat) (wv : Nat) (far wi se : Nat → Int32), p + d = b → p ≤ q → P3 n tr w b bt wd p 0 (p + 1) q ps pr fv wv far wi se → p_GapFinder_widest_76 n fw (6 * n) fa n n n post (d + 1) (nI p) (nI b) (nI q) (nI wv) iB far be wi se := by
    intro d
    induction d with
    | zero =>
      intro p q ps pr fv wv far wi se hd hpq hI
      have hqb : q ≤ b := inj_le hI.pb hI.pi
      have hq : q = b := by omega
      refine ⟨fun _ => ⟨fun _ => ?_, fun z => absurd (nI_le (by omega) (by omega)) z⟩, fun z => absurd (nI_le (by omega) (by omega)) z⟩
      -- all are settled, and all steps are gone
      have hall : ∀ i, i < b → ∃ j, j < q ∧ ps j = i := fun i hi => by
        apply Classical.byContradiction
        intro hno
        have : b + 1 ≤ b := inj_le (f := fun j => if j = b then i else ps j) (fun j hj => by
          try dsimp only
          by_cases y : j = b
          · rw [if_pos y]; exact hi
          · rw [if_neg y]; exact hI.pb j (by omega)) (fun a c ha hc e => by
          try dsimp only at e
          by_cases y1 : a = b <;> by_cases y2 : c = b
          · omega
          · rw [if_pos y1, if_neg y2] at e; exact absurd ⟨c, by omega, e.symm⟩ hno
          · rw [if_neg y1, if_pos y2] at e; exact absurd ⟨a, by omega, e⟩ hno
          · rw [if_neg y1, if_neg y2] at e; exact hI.pi a c (by omega) (by omega) e)
        omega
      have hpr : ∀ e, e < 6 * b → pr e = true := fun e he => (hI.pq e he).mpr (Or.inl (by
        obtain ⟨j, hj, ej⟩ := hall (e / 6) (by omega)
        exact ⟨j, by omega, ej⟩))
      have hfar : ∀ m x, Nw (Ed n tr) (Wn n w) (m + 1) x → ∃ i, i < b ∧ bt i = x ∧ m + 1 ≤ fv i := by
        intro m
        induction m with
        | zero =>
          intro x hx
          obtain ⟨i, hi, e⟩ := F.all 0 x hx
          exact ⟨i, hi, e, (hI.f1 i hi).1⟩
        | succ m ih =>
          intro x hx
          obtain ⟨i, hi, e⟩ := F.all (m + 1) x hx
          obtain ⟨⟨y, hy, -, -, c, hc, ey⟩, -⟩ := hx
          obtain ⟨i2, hi2, e2, hm⟩ := ih y hy
          have := hI.fe (6 * i2 + c) (by omega) (hpr _ (by omega)) i hi (by
            unfold ed
            rw [show (6 * i2 + c) / 6 = i2 by omega, show (6 * i2 + c) % 6 = c by omega, e2, e]; exact ey)
          rw [show (6 * i2 + c) / 6 = i2 by omega] at this
          exact ⟨i, hi, e, by omega⟩
      refine hp _ _ _ _ _ _ _ _ _ (Or.inr ⟨wv, ?_, rfl, ⟨?_, fun m y x h1 h2 h3 => ?_⟩, fun x hx => ?_⟩)
      · -- the bound: a winner is no state between
        have hwl := hI.wl
        by_cases hb0 : b = 0
        · have hwg := hI.wg
          have hw1 := F.wd1
          rcases hI.wa with z | ⟨m, y, x, h1, h2, h3, h4⟩
          · omega
          · cases m with
            | zero => omega
            | succ m =>
              obtain ⟨i, hi, -⟩ := F.all m y h2
              omega
        · obtain ⟨m, hm⟩ := F.br 0 (by omega)
          have hex : ∃ z, Wn n w z := by
            have : ∀ m x, Nw (Ed n tr) (Wn n w) m x → ∃ z, Wn n w z := by
              intro m
              induction m with
              | zero => intro x hx; exact ⟨x, hx⟩
              | succ m ih => rintro x ⟨⟨y, hy, -⟩, -⟩; exact ih y hy
            exact this _ _ hm
          obtain ⟨z, hz⟩ := hex
          have : b + 1 ≤ n := inj_le (f := fun j => if j = b then z else bt j) (fun j hj => by
            try dsimp only
            by_cases y : j = b
            · rw [if_pos y]; exact hz.1
            · rw [if_neg y]; exact F.bn j (by omega)) (fun a c ha hc e => by
            try dsimp only at e
            by_cases y1 : a = b <;> by_cases y2 : c = b
            · omega
            · rw [if_pos y1, if_neg y2] at e
              exact absurd hz.2 (by rw [e]; exact F.bw c (by omega))
            · rw [if_neg y1, if_pos y2] at e
              exact absurd hz.2 (by rw [← e]; exact F.bw a (by omega))
            · rw [if_neg y1, if_neg y2] at e; exact F.inj a c (by omega) (by omega) e)
          have hp1 : p = b := by omega
          omega
      · rcases hI.wa with z | z
        · have hw1 := F.wd1
          by_cases y : wd = 1
          · obtain ⟨m, y', x, h1, h2, h3⟩ := F.wa y
            cases m with
            | zero => exact Or.inr ⟨0, y', x, by omega, h1, h2, h3⟩
            | succ m =>
              obtain ⟨i, hi, ei, hm⟩ := hfar m y' h1
              obtain ⟨-, -, c, hc, ec⟩ := h2
              have := hI.we (6 * i + c) (by omega) (hpr _ (by omega)) x (by
                unfold ed
                rw [show (6 * i + c) / 6 = i by omega, show (6 * i + c) % 6 = c by omega, ei]; exact ec) h3.1 h3.2
              rw [show (6 * i + c) / 6 = i by omega] at this
              omega
          · exact Or.inl (by omega)
        · exact Or.inr z
      · cases m with
        | zero =>
          obtain ⟨-, -, c, hc, ec⟩ := h2
          have := F.cw y c x (Or.inl h1) hc ec h3.1 h3.2
          have := hI.wg
          omega
        | succ m =>
          obtain ⟨i, hi, ei, hm⟩ := hfar m y h1
          obtain ⟨-, -, c, hc, ec⟩ := h2
          have := hI.we (6 * i + c) (by omega) (hpr _ (by omega)) x (by
            unfold ed
            rw [show (6 * i + c) / 6 = i by omega, show (6 * i + c) % 6 = c by omega, ei]; exact ec) h3.1 h3.2
          rw [show (6 * i + c) / 6 = i by omega] at this
          omega
      · obtain ⟨i, hi, ei, hm⟩ := hfar n x hx
        have hl := hI.fl i hi
        -- as above: b + 1 ≤ n
        have hex : ∃ z, Wn n w z := by
          have : ∀ m x, Nw (Ed n tr) (Wn n w) m x → ∃ z, Wn n w z := by
            intro m
            induction m with
            | zero => intro x hx; exact ⟨x, hx⟩
            | succ m ih => rintro x ⟨⟨y, hy, -⟩, -⟩; exact ih y hy
          exact this _ _ hx
        obtain ⟨z, hz⟩ := hex
        have : b + 1 ≤ n := inj_le (f := fun j => if j = b then z else bt j) (fun j hj => by
          try dsimp only
          by_cases y : j = b
          · rw [if_pos y]; exact hz.1
          · rw [if_neg y]; exact F.bn j (by omega)) (fun a c ha hc e => by
          try dsimp only at e
          by_cases y1 : a = b <;> by_cases y2 : c = b
          · omega
          · rw [if_pos y1, if_neg y2] at e
            exact absurd hz.2 (by rw [e]; exact F.bw c (by omega))
          · rw [if_neg y1, if_pos y2] at e
            exact absurd hz.2 (by rw [← e]; exact F.bw a (by omega))
          · rw [if_neg y1, if_neg y2] at e; exact F.inj a c (by omega) (by omega) e)
        omega
    | succ d ih =>
      intro p q ps pr fv wv far wi se hd hpq hI
      have hqb : q ≤ b := inj_le hI.pb hI.pi
      by_cases hlt : p < q
      · refine ⟨fun z => absurd z (nI_ge hlt (by omega)), fun _ => ⟨fun z => absurd z (nI_ge (b := n) (by omega) (by omega)), fun _ => ⟨vp_in_nI (by omega) (by omega), ?_⟩⟩⟩
        rw [nI_clamp (n := p) (by omega), hI.se p hlt, nI_1]
        refine q_passOn Q F (by omega) hI hlt (fun q' ps' pr' fv' wv' far' wi' se' h1 hJ _ => ?_)
        exact ih (p + 1) q' ps' pr' fv' wv' far' wi' se' (by omega) (by omega) hJ
      · have hq : q = p := by omega
        subst hq
        refine ⟨fun _ => ⟨fun z => absurd z (nI_ge (by omega) (by omega)), fun _ => ?_⟩, fun z => absurd (nI_le (Nat.le_refl _) (by omega)) z⟩
        -- some are not settled: each has a way in from another such
        have hback : ∀ i, i < b → (¬ ∃ j, j < q ∧ ps j = i) → ∃ i2, i2 < b ∧ (¬ ∃ j, j < q ∧ ps j = i2) ∧ Ed n tr (bt i2) (bt i) := fun i hi hno => by
          have hd0 : dg tr bt b pr (bt i) ≠ 0 := fun z => hno ((hI.st i hi).mpr z)
          obtain ⟨e, he, hne⟩ := sum_p _ hd0
          have hc : pr e = false ∧ ed tr bt e = some (bt i) := by
            apply Classical.byContradiction
            intro z
            exact hne (if_neg z)
          refine ⟨e / 6, by omega, fun ⟨j, hj, ej⟩ => ?_, F.bn _ (by omega), F.bn i hi, e % 6, by omega, hc.2⟩
          have := (hI.pq e he).mpr (Or.inl ⟨j, hj, ej⟩)
          rw [hc.1] at this
          cases this
        have hone : ∃ i, i < b ∧ ¬ ∃ j, j < q ∧ ps j = i := by
          apply Classical.byContradiction
          intro hno
          have hsur : ∀ i, ∃ j, i < b → (j < q ∧ ps j = i) := fun i => by
            by_cases hi : i < b
            · have : ∃ j, j < q ∧ ps j = i := Classical.byContradiction fun z => hno ⟨i, hi, z⟩
              obtain ⟨j, hj⟩ := this
              exact ⟨j, fun _ => hj⟩
            · exact ⟨0, fun z => absurd z hi⟩
          have : b ≤ q := inj_le (f := fun i => Classical.choose (hsur i)) (fun i hi => (Classical.choose_spec (hsur i) hi).1) (fun i j hi hj e => by
            have h1 := (Classical.choose_spec (hsur i) hi).2
            have h2 := (Classical.choose_spec (hsur j) hj).2
            try dsimp only at e
            rw [← h1, ← h2, e])
          omega
        have hlong : ∀ m, ∀ i, i < b → (¬ ∃ j, j < q ∧ ps j = i) → ∃ k, m ≤ k ∧ Nw (Ed n tr) (Wn n w) (k + 1) (bt i) := by
          intro m
          induction m with
          | zero =>
            intro i hi _
            obtain ⟨k, hk⟩ := F.br i hi
            exact ⟨k, Nat.zero_le _, hk⟩
          | succ m ih2 =>
            intro i hi hno
            obtain ⟨i2, hi2, hno2, hE⟩ := hback i hi hno
            obtain ⟨k, hk, hN⟩ := ih2 i2 hi2 hno2
            exact ⟨k + 1, by omega, ⟨_, hN, hE⟩, fun z => F.bw i hi z.2⟩
        obtain ⟨i, hi, hno⟩ := hone
        refine hp _ _ _ _ _ _ _ _ _ (Or.inl ⟨rfl, fun m => ?_⟩)
        obtain ⟨k, hk, hN⟩ := hlong m i hi hno
        have hdown : ∀ d x, Nw (Ed n tr) (Wn n w) (m + d) x → ∃ x, Nw (Ed n tr) (Wn n w) m x := by
          intro d
          induction d with
          | zero => intro x hx; exact ⟨x, hx⟩
          | succ d ih3 => rintro x ⟨⟨y, hy, -⟩, -⟩; exact ih3 y hy
        exact hdown (k + 1 - m) (bt i) (by rw [show m + (k + 1 - m) = k + 1 by omega]; exact hN)
  refine ⟨b + 1, key b 0 q ps (fun _ => false) (fun _ => 1) wd far wi se (by omega) (Nat.zero_le _) ⟨hpb, hpi, hse, fun e he => ?_, hwi, hst, fun i hi => ?_, fun i hi => ?_, fun i hi => Nat.le_refl _, (fun e he z => by cases z), Nat.le_refl _, ?_, Or.inl rfl, (fun e he z => by cases z)⟩⟩
  · constructor
    · intro z; cases z
    · rintro (⟨j, hj, -⟩ | ⟨-, -, z⟩)
      · exact absurd hj (Nat.not_lt_zero _)
      · exact absurd z (Nat.not_lt_zero _)
  · exact hfar i hi
  · exact ⟨Nat.le_refl _, fun z => absurd (show 2 ≤ 1 from z) (by omega)⟩
  · have := F.wd1; omega