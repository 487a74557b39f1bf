/-! The reference: number, make -/
theorem Canon.zero {N cnt : Nat} {g s : Nat → Nat} (h : Canon N g cnt s) (hN : 0 < N) : g 0 = 0 := by
  have h1 := h.2 0 hN
  obtain ⟨a1, a2, a3⟩ := h.1 0 (by omega)
  rcases Nat.eq_zero_or_pos (s 0) with z | z
  · rw [z] at a2; exact a2
  · have := a3 0 z; omega
/-- the steps in their order, node 0 before them -/
def yv (A : Auto) : Nat → Nat
  | 0 => 0
  | t + 1 => A.to (t / 6) (t % 6)
theorem yv_canon {D : Md} (hD : DOk D) : ∃ σ, Canon (6 * D.au.N + 1) (yv D.au) D.au.N σ ∧ ∀ k, k < D.au.N → σ k ≤ 6 * k := by
  have hB := D.sets_ok hD.hP
  have hex : ∀ k, ∃ t, k < D.au.N → (t < 6 * D.au.N + 1 ∧ t ≤ 6 * k ∧ yv D.au t = k ∧ ∀ i, i < t → yv D.au i < k) := by
    intro k
    by_cases hk : k < D.au.N
    · rcases Nat.eq_zero_or_pos k with z | z
      · subst z
        exact ⟨0, fun _ => ⟨by omega, by omega, rfl, fun i hi => absurd hi (Nat.not_lt_zero _)⟩⟩
      · obtain ⟨t, ht, ht6, e, hf⟩ := hB.fs k z hk
        have hN : D.au.N = D.sets.length := rfl
        have hval : ∀ t j, t < 6 * D.sets.length → j < D.sets.length → slot D D.sets t = nd D.sets j → D.au.to (t / 6) (t % 6) = j := fun t j ht hj e => by
          apply hB.ok.inj (au_lt hD (by omega) (by omega)) hj
          rw [au_nd hD (by omega) (by omega)]
          exact e
        refine ⟨t + 1, fun _ => ⟨by omega, by omega, hval t k ht hk e, fun i hi => ?_⟩⟩
        cases i with
        | zero => exact z
        | succ i =>
          obtain ⟨j, hj, e2⟩ := hf i (by omega)
          have := hval i j (by omega) (by omega) e2
          show D.au.to (i / 6) (i % 6) < k
          omega
    · exact ⟨0, fun q => absurd q hk⟩
  refine ⟨fun k => Classical.choose (hex k), ⟨fun k hk => ?_, fun i hi => ?_⟩, fun k hk => ?_⟩
  · have := Classical.choose_spec (hex k) hk
    exact ⟨this.1, this.2.2.1, this.2.2.2⟩
  · cases i with
    | zero => exact (au_ok hD).pos
    | succ i => exact (au_ok hD).to _ _ (by omega) (by omega)
  · exact (Classical.choose_spec (hex k) hk).2.1
/-- the labels behind the samples' steps in their order -/
def zv (A : Auto) (g s : Nat → Nat) : Nat → Nat
  | 0 => 0
  | u + 1 => g (A.to (s (u / 6)) (u % 6))
theorem Mini.gto {A : Auto} (hA : A.Ok) {g s : Nat → Nat} {n : Nat} (h : Mini A g n s) {i j c : Nat} (hi : i < A.N) (hj : j < A.N) (hc : c < 6) (e : g i = g j) : g (A.to i c) = g (A.to j c) := by
  have hle := hA.le
  have hn := h.can.le
  have h1 := h.can.2 _ (hA.to i c hi hc)
  have h2 := h.can.2 _ (hA.to j c hj hc)
  have q := h.step hA hi hj hc e
  rw [gA_iff (by omega) (by omega)] at q
  rcases q with ⟨a, b⟩ | ⟨-, -, q⟩
  · rw [a, b]
  · exact q
theorem zv_canon {D : Md} (hD : DOk D) {g s : Nat → Nat} {n : Nat} (h : Mini D.au g n s) : ∃ τ, Canon (6 * n + 1) (zv D.au g s) n τ ∧ ∀ k, k < n → τ k ≤ 6 * k := by
  have hA := au_ok hD
  obtain ⟨σ, hy, hσ⟩ := yv_canon hD
  have hC := hy.comp h.can
  have g0 := h.can.zero hA.pos
  have hex : ∀ k, ∃ t, k < n → (t < 6 * n + 1 ∧ t ≤ 6 * k ∧ zv D.au g s t = k ∧ ∀ i, i < t → zv D.au g s i < k) := by
    intro k
    by_cases hk : k < n
    · rcases Nat.eq_zero_or_pos k with z | z
      · subst z
        exact ⟨0, fun _ => ⟨by omega, by omega, rfl, fun i hi => absurd hi (Nat.not_lt_zero _)⟩⟩
      · obtain ⟨c1, c2, c3⟩ := hC.1 k hk
        obtain ⟨k1, k2, k3⟩ := h.can.1 k hk
        dsimp only at c1 c2 c3
        have hs6 := hσ (s k) k1
        generalize ht : σ (s k) = t at c1 c2 c3 hs6
        cases t with
        | zero =>
          exact absurd c2 (by show ¬ g 0 = k; omega)
        | succ t =>
          have c2 : g (D.au.to (t / 6) (t % 6)) = k := c2
          have hi : t / 6 < D.au.N := by omega
          have hik : t / 6 < s k := by omega
          have hgk := k3 _ hik
          have hgn : g (t / 6) < n := by omega
          have hfirst := h.can.first hi
          obtain ⟨q1, q2, q3⟩ := h.can.1 _ hgn
          have hsame : g (D.au.to (s (g (t / 6))) (t % 6)) = k := by
            rw [h.gto hA q1 hi (by omega) q2]; exact c2
          have heq : s (g (t / 6)) = t / 6 := by
            rcases Nat.lt_or_ge (s (g (t / 6))) (t / 6) with y | y
            · have := c3 (1 + 6 * s (g (t / 6)) + t % 6) (by omega)
              have e2 : yv D.au (1 + 6 * s (g (t / 6)) + t % 6) = D.au.to (s (g (t / 6))) (t % 6) := by
                rw [show 1 + 6 * s (g (t / 6)) + t % 6 = (6 * s (g (t / 6)) + t % 6) + 1 by omega]
                show D.au.to ((6 * s (g (t / 6)) + t % 6) / 6) ((6 * s (g (t / 6)) + t % 6) % 6) = _
                rw [show (6 * s (g (t / 6)) + t % 6) / 6 = s (g (t / 6)) by omega, show (6 * s (g (t / 6)) + t % 6) % 6 = t % 6 by omega]
              rw [e2, hsame] at this
              omega
            · omega
          refine ⟨6 * g (t / 6) + t % 6 + 1, fun _ => ⟨by omega, by omega, ?_, fun u hu => ?_⟩⟩
          · show g (D.au.to (s ((6 * g (t / 6) + t % 6) / 6)) ((6 * g (t / 6) + t % 6) % 6)) = k
            rw [show (6 * g (t / 6) + t % 6) / 6 = g (t / 6) by omega, show (6 * g (t / 6) + t % 6) % 6 = t % 6 by omega]
            exact hsame
          · cases u with
            | zero => exact z
            | succ u =>
              show g (D.au.to (s (u / 6)) (u % 6)) < k
              have hlt : 6 * s (u / 6) + u % 6 < t := by
                rcases Nat.lt_or_ge (u / 6) (g (t / 6)) with y | y
                · have := h.can.smono y hgn
                  omega
                · have : u / 6 = g (t / 6) := by omega
                  rw [this, heq]; omega
              have := c3 ((6 * s (u / 6) + u % 6) + 1) (by omega)
              have e2 : yv D.au ((6 * s (u / 6) + u % 6) + 1) = D.au.to (s (u / 6)) (u % 6) := by
                show D.au.to ((6 * s (u / 6) + u % 6) / 6) ((6 * s (u / 6) + u % 6) % 6) = _
                rw [show (6 * s (u / 6) + u % 6) / 6 = s (u / 6) by omega, show (6 * s (u / 6) + u % 6) % 6 = u % 6 by omega]
              rw [e2] at this
              exact this
    · exact ⟨0, fun q => absurd q hk⟩
  refine ⟨fun k => Classical.choose (hex k), ⟨fun k hk => ?_, fun i hi => ?_⟩, fun k hk => ?_⟩
  · have := Classical.choose_spec (hex k) hk
    exact ⟨this.1, this.2.2.1, this.2.2.2⟩
  · cases i with
    | zero => have := h.can.2 0 hA.pos; show 0 < n; omega
    | succ i =>
      refine h.can.2 _ (hA.to _ _ (h.can.1 _ (by omega)).1 (by omega))
  · exact (Classical.choose_spec (hex k) hk).2.1
/-- the reference's machine of mode M -/
def RM (D : Md) (M : Nat) (no se st gr sa gs : Nat → Int32) (g : Nat → Nat) (n : Nat) (s : Nat → Nat) : Prop :=
  (RS D M no se st) ∧
  (∀ k, k < D.au.N → gr (514 * M + k) = nI (g k)) ∧
  (gs M = nI n) ∧
  (∀ h, h < n → ∃ k, k < D.au.N ∧ sa (514 * M + h) = nI k ∧ g k = h) ∧
  (Mini D.au g n s)
theorem RM.rs {D : Md} {M : Nat} {no se st gr sa gs : Nat → Int32} {g : Nat → Nat} {n : Nat} {s : Nat → Nat} (h_ : RM D M no se st gr sa gs g n s) : RS D M no se st := h_.1
theorem RM.gr {D : Md} {M : Nat} {no se st gr sa gs : Nat → Int32} {g : Nat → Nat} {n : Nat} {s : Nat → Nat} (h_ : RM D M no se st gr sa gs g n s) : ∀ k, k < D.au.N → gr (514 * M + k) = nI (g k) := h_.2.1
theorem RM.gs {D : Md} {M : Nat} {no se st gr sa gs : Nat → Int32} {g : Nat → Nat} {n : Nat} {s : Nat → Nat} (h_ : RM D M no se st gr sa gs g n s) : gs M = nI n := h_.2.2.1
theorem RM.sa {D : Md} {M : Nat} {no se st gr sa gs : Nat → Int32} {g : Nat → Nat} {n : Nat} {s : Nat → Nat} (h_ : RM D M no se st gr sa gs g n s) : ∀ h, h < n → ∃ k, k < D.au.N ∧ sa (514 * M + h) = nI k ∧ g k = h := h_.2.2.2.1
theorem RM.mi {D : Md} {M : Nat} {no se st gr sa gs : Nat → Int32} {g : Nat → Nat} {n : Nat} {s : Nat → Nat} (h_ : RM D M no se st gr sa gs g n s) : Mini D.au g n s := h_.2.2.2.2

/-- number under way: u slots done, q labels met -/
def NI (D : Md) (M : Nat) (g s : Nat → Nat) (n u q : Nat) (fr sa gs : Nat → Int32) : Prop :=
  (0 < q) ∧
  (q ≤ n) ∧
  (gs M = nI q) ∧
  (∀ j, j < q → fr j = nI j) ∧
  (∀ j, q ≤ j → j < n → fr j = -1) ∧
  (∀ h, h < q → ∃ k, k < D.au.N ∧ sa (514 * M + h) = nI k ∧ g k = h) ∧
  (∀ v, v ≤ u → zv D.au g s v < q)
theorem NI.q1 {D : Md} {M : Nat} {g s : Nat → Nat} {n u q : Nat} {fr sa gs : Nat → Int32} (h_ : NI D M g s n u q fr sa gs) : 0 < q := h_.1
theorem NI.qn {D : Md} {M : Nat} {g s : Nat → Nat} {n u q : Nat} {fr sa gs : Nat → Int32} (h_ : NI D M g s n u q fr sa gs) : q ≤ n := h_.2.1
theorem NI.ngs {D : Md} {M : Nat} {g s : Nat → Nat} {n u q : Nat} {fr sa gs : Nat → Int32} (h_ : NI D M g s n u q fr sa gs) : gs M = nI q := h_.2.2.1
theorem NI.nfr {D : Md} {M : Nat} {g s : Nat → Nat} {n u q : Nat} {fr sa gs : Nat → Int32} (h_ : NI D M g s n u q fr sa gs) : ∀ j, j < q → fr j = nI j := h_.2.2.2.1
theorem NI.nfm {D : Md} {M : Nat} {g s : Nat → Nat} {n u q : Nat} {fr sa gs : Nat → Int32} (h_ : NI D M g s n u q fr sa gs) : ∀ j, q ≤ j → j < n → fr j = -1 := h_.2.2.2.2.1
theorem NI.nsa {D : Md} {M : Nat} {g s : Nat → Nat} {n u q : Nat} {fr sa gs : Nat → Int32} (h_ : NI D M g s n u q fr sa gs) : ∀ h, h < q → ∃ k, k < D.au.N ∧ sa (514 * M + h) = nI k ∧ g k = h := h_.2.2.2.2.2.1
theorem NI.zl {D : Md} {M : Nat} {g s : Nat → Nat} {n u q : Nat} {fr sa gs : Nat → Int32} (h_ : NI D M g s n u q fr sa gs) : ∀ v, v ≤ u → zv D.au g s v < q := h_.2.2.2.2.2.2

theorem GG.nat {A : Auto} (_ : A.Ok) {M : Nat} {gr : Nat → Int32} {g : Nat → Nat} (h : ∀ k, k < A.N → gr (514 * M + k) = nI (g k)) (hg : ∀ k, k < A.N → g k < 2 ^ 31) : GG A M gr (fun k => nI (g k)) g := ⟨h, fun i j hi hj => nI_eq (hg i hi) (hg j hj)⟩
theorem q_M_num69 {D : Md} (hD : DOk D) {M : Nat} (hM : M < 3) {no se st gr : Nat → Int32} {g s : Nat → Nat} {n : Nat} (hS : RS D M no se st) (hgr : ∀ k, k < D.au.N → gr (514 * M + k) = nI (g k)) (h : Mini D.au g n s) {hh q : Nat} (hq : hh < q) {fr sa gs : Nat → Int32} (hI : NI D M g s n (6 * hh) q fr sa gs) {post K : _} {sa0 gs0 : Nat → Int32} (b1 : Blk 514 M sa0 sa) (b2 : Blk 1 M gs0 gs)
    (hK : ∀ q' fr' sa' gs', Blk 514 M sa0 sa' → Blk 1 M gs0 gs' → q ≤ q' → NI D M g s n (6 * (hh + 1)) q' fr' sa' gs' → K (nI (hh + 1)) fr' sa' gr gs') : ∃ k, p_M_number_69 st (nI M) post K k (nI hh) 0 fr sa gr gs := by
  have hA := au_ok hD
  have hle := hA.le
  have hnN := h.can.le
  obtain ⟨τ, hτ, hτ6⟩ := zv_canon hD h
  have hG := GG.nat hA hgr (fun k hk => by have := h.can.2 k hk; omega)
  refine pk_loop (σ := Nat × (Nat → Int32) × (Nat → Int32) × (Nat → Int32)) (fun k c x => p_M_number_69 st (nI M) post K k (nI hh) (nI c) x.2.1 x.2.2.1 gr x.2.2.2) (fun c x => Blk 514 M sa0 x.2.2.1 ∧ Blk 1 M gs0 x.2.2.2 ∧ q ≤ x.1 ∧ NI D M g s n (6 * hh + c) x.1 x.2.1 x.2.2.1 x.2.2.2) 6 0 (q, fr, sa, gs) (Nat.zero_le _) ⟨b1, b2, Nat.le_refl _, hI⟩ ?_ ?_
  · rintro k ⟨q', fr', sa', gs'⟩ ⟨c1, c2, c3, hJ⟩
    refine ⟨fun _ => ?_, fun z => absurd (by decide) z⟩
    show K (nI hh + 1) _ _ _ _
    rw [nI_1]
    exact hK q' fr' sa' gs' c1 c2 c3 hJ
  · rintro k c ⟨q', fr', sa', gs'⟩ hc ⟨c1, c2, c3, hJ⟩ hk
    dsimp only at c1 c2 c3 hJ hk ⊢
    obtain ⟨a, ha, ea, eg⟩ := hJ.nsa hh (by omega)
    have hqn := hJ.qn
    refine ⟨fun z => absurd z (nI_ge (b := 6) hc (by omega)), fun _ => ?_⟩
    rw [ix514, nI_clamp (n := 514 * M + hh) (by omega), ea, nI_1]
    refine ⟨vp_in_nI (by omega) (by omega), q_M_go hA hM hS ha hc ?_⟩
    have hta := hA.to a c ha hc
    obtain ⟨s1, s2, s3⟩ := h.can.1 hh (by omega)
    -- the label behind
    have hz : zv D.au g s (6 * hh + c + 1) = g (D.au.to a c) := by
      show g (D.au.to (s ((6 * hh + c) / 6)) ((6 * hh + c) % 6)) = _
      rw [show (6 * hh + c) / 6 = hh by omega, show (6 * hh + c) % 6 = c by omega]
      exact h.gto hA s1 ha hc (by rw [s2, eg])
    have hv := h.can.2 _ hta
    have hsame : g (D.au.to a c) < q' → NI D M g s n (6 * hh + (c + 1)) q' fr' sa' gs' := fun hl => ⟨hJ.q1, hJ.qn, hJ.ngs, hJ.nfr, hJ.nfm, hJ.nsa, fun v hv => by
      by_cases e : v = 6 * hh + c + 1
      · rw [e, hz]; exact hl
      · exact hJ.zl v (by omega)⟩
    refine ⟨fun z => hk (q', fr', sa', gs') ⟨c1, c2, c3, hsame ?_⟩, fun z => ?_⟩
    · have h0 : D.au.to a c = 0 := by
        apply Classical.byContradiction
        intro y
        rw [gT_n y] at z
        exact nI_nm1 (by omega) z
      rw [h0, h.can.zero hA.pos]; exact hJ.q1
    · have h0 : D.au.to a c ≠ 0 := fun y => z (gT_0 y)
      rw [gT_n h0]
      refine q_M_groupAt hA hM hG hta ?_
      rw [nI_clamp (n := g (D.au.to a c)) (by omega)]
      refine ⟨vp_in_nI (by omega) (by omega), fun e => ?_, fun e => ?_⟩
      · have hge : q' ≤ g (D.au.to a c) := by
          rcases Nat.lt_or_ge (g (D.au.to a c)) q' with y | y
          · rw [hJ.nfr _ y] at e
            exact absurd e (nI_nm1 (by omega))
          · exact y
        have heq : g (D.au.to a c) = q' := by
          rcases Nat.eq_or_lt_of_le hge with y | y
          · exact y.symm
          · have h1 := hτ.smono y hv
            have h2 := hτ.first (i := 6 * hh + c + 1) (by omega)
            rw [hz] at h2
            have h3 := hJ.zl (τ q') (by omega)
            rw [(hτ.1 q' (by omega)).2.1] at h3
            omega
        refine q_M_groupAt hA hM hG hta ?_
        have hm := vp_in_nI hM (by omega : 3 < 2 ^ 31)
        rw [nI_clamp (n := M) (by omega), nI_clamp (n := g (D.au.to a c)) (by omega), hJ.ngs, ix514, nI_clamp (n := 514 * M + q') (by omega), heq, nI_1]
        refine ⟨hm, vp_in_nI (by omega) (by omega), hm, vp_in_nI (by omega) (by omega), hm, hm, ?_⟩
        refine hk (q' + 1, upd fr' q' (nI q'), upd sa' (514 * M + q') (nI (D.au.to a c)), upd gs' M (nI (q' + 1))) ⟨c1.upd (by omega), ?_, by dsimp only; omega, ?_⟩
        · have := c2.upd (k := 0) (x := nI (q' + 1)) (by omega)
          rw [show 1 * M + 0 = M by omega] at this
          exact this
        · dsimp only
          refine ⟨by omega, by omega, by rw [pk_us], fun j hj => ?_, fun j h1 h2 => ?_, fun j hj => ?_, fun v hv2 => ?_⟩
          · by_cases y : j = q'
            · subst y; rw [pk_us]
            · rw [pk_un y]; exact hJ.nfr j (by omega)
          · rw [pk_un (by omega)]; exact hJ.nfm j (by omega) h2
          · by_cases y : j = q'
            · subst y; exact ⟨_, hta, pk_us, heq⟩
            · rw [pk_un (by omega)]; exact hJ.nsa j (by omega)
          · by_cases y : v = 6 * hh + c + 1
            · rw [y, hz]; omega
            · have := hJ.zl v (by omega); omega
      · refine hk (q', fr', sa', gs') ⟨c1, c2, c3, hsame ?_⟩
        rcases Nat.lt_or_ge (g (D.au.to a c)) q' with y | y
        · exact y
        · exact absurd (hJ.nfm _ y hv) e
theorem q_M_num181 {D : Md} (hA : D.au.Ok) {M : Nat} (hM : M < 3) {no : Nat → Int32} (hno : no M = nI D.au.N) {g : Nat → Nat} {n : Nat} (hn : n ≤ 512) (hg : ∀ k, k < D.au.N → g k < n) {fr sa gs gr : Nat → Int32} (hfr : ∀ j, j < n → fr j = nI j) (hgr : ∀ k, k < D.au.N → gr (514 * M + k) = nI (g k)) {post : (Nat → Int32) → (Nat → Int32) → (Nat → Int32) → (Nat → Int32) → Prop}
    (hp : ∀ gr', Blk 514 M gr gr' → (∀ k, k < D.au.N → gr' (514 * M + k) = nI (g k)) → post fr sa gr' gs) : ∃ k, p_M_number_181 no (nI M) post k 0 fr sa gr gs := by
  have hle := hA.le
  refine pk_loop (fun m i gr' => p_M_number_181 no (nI M) post m (nI i) fr sa gr' gs) (fun i gr' => Blk 514 M gr gr' ∧ ∀ k, k < D.au.N → gr' (514 * M + k) = nI (g k)) D.au.N 0 gr (Nat.zero_le _) ⟨Blk.refl, hgr⟩ ?_ ?_
  · intro m gr' hI
    refine ⟨vp_in_nI hM (by omega), ?_⟩
    rw [nI_clamp (by omega), hno]
    exact ⟨fun _ => hp gr' hI.1 hI.2, fun z => absurd (nI_le (Nat.le_refl _) (by omega)) z⟩
  · intro m i gr' hi hI hk
    refine ⟨vp_in_nI hM (by omega), ?_⟩
    have hgi := hg i hi
    rw [nI_clamp (by omega), hno, ix514, nI_clamp (n := 514 * M + i) (by omega), hI.2 i hi, nI_clamp (n := g i) (by omega), hfr _ hgi, nI_1]
    refine ⟨fun z => absurd z (nI_ge hi (by omega)), fun _ => ⟨vp_in_nI (by omega) (by omega), vp_in_nI (by omega) (by omega), vp_in_nI (by omega) (by omega), hk _ ⟨hI.1.upd (by omega), fun k hk => ?_⟩⟩⟩
    by_cases e : k = i
    · subst e; rw [pk_us]
    · rw [pk_un (by omega)]; exact hI.2 k hk
theorem q_M_number {D : Md} (hD : DOk D) {M : Nat} (hM : M < 3) {no se st gr fr sa gs : Nat → Int32} {g s : Nat → Nat} {n : Nat} (hS : RS D M no se st) (hgr : ∀ k, k < D.au.N → gr (514 * M + k) = nI (g k)) (h : Mini D.au g n s) {post : (Nat → Int32) → (Nat → Int32) → (Nat → Int32) → (Nat → Int32) → Prop}
    (hp : ∀ fr' sa' gr' gs', Blk 514 M sa sa' → Blk 514 M gr gr' → Blk 1 M gs gs' → RM D M no se st gr' sa' gs' g n s → post fr' sa' gr' gs') : p_M_number no fr sa gr gs st (nI M) post := by
  have hA := au_ok hD
  have hle := hA.le
  have hnN := h.can.le
  have hpos := hA.pos
  have g0 := h.can.zero hA.pos
  have hm := vp_in_nI hM (by omega : 3 < 2 ^ 31)
  obtain ⟨τ, hτ, hτ6⟩ := zv_canon hD h
  have hn0 : 0 < n := by have := h.can.2 0 hpos; omega
  have hG := GG.nat hA hgr (fun k hk => by have := h.can.2 k hk; omega)
  -- the walk over the labels
  have key : ∀ (d hh q : Nat) (fr sa' gs' : Nat → Int32), hh + d = n → hh ≤ q → Blk 514 M sa sa' → Blk 1 M gs gs' → NI D M g s n (6 * hh) q fr sa' gs' → p_M_number_57 no st (nI M) post (d + 1) (nI hh) fr sa' gr gs' := by
    intro d
    induction d with
    | zero =>
      intro hh q fr sa' gs' hd hq c1 c2 hI
      have hqn := hI.qn
      have e : q = hh := by omega
      refine ⟨hm, ?_⟩
      rw [nI_clamp (by omega), hI.ngs]
      refine ⟨fun _ => ?_, fun z => absurd (nI_le (by omega) (by omega)) z⟩
      exact q_M_num181 hA hM hS.no (by omega) h.can.2 (fun j hj => hI.nfr j (by omega)) hgr (fun gr' hb hgr' => hp _ _ _ _ c1 hb c2 ⟨hS, hgr', by rw [hI.ngs, show q = n by omega], fun j hj => hI.nsa j (by omega), h⟩)
    | succ d ih =>
      intro hh q fr sa' gs' hd hq c1 c2 hI
      have hqn := hI.qn
      refine ⟨hm, ?_⟩
      rw [nI_clamp (by omega), hI.ngs]
      by_cases e : hh < q
      · refine ⟨fun z => absurd z (nI_ge e (by omega)), fun _ => ?_⟩
        exact q_M_num69 hD hM hS hgr h e hI c1 c2 (fun q' fr' sa'' gs'' d1 d2 d3 hJ => ih (hh + 1) q' fr' sa'' gs'' (by omega) (by omega) d1 d2 hJ)
      · exfalso
        have e2 : q = hh := by omega
        subst e2
        have h1 := hτ6 q (by omega)
        have h2 := hI.zl (τ q) h1
        rw [(hτ.1 q (by omega)).2.1] at h2
        omega
  refine pk_loop (fun m i fr => p_M_number_2 no st (nI M) post m (nI i) fr sa gr gs) (fun i fr => ∀ k, k < i → fr k = -1) D.au.N 0 fr (Nat.zero_le _) (fun k hk => absurd hk (Nat.not_lt_zero _)) ?_ ?_
  · intro m fr hI
    refine ⟨hm, ?_⟩
    rw [nI_clamp (by omega), hS.no]
    refine ⟨fun _ => ?_, fun z => absurd (nI_le (Nat.le_refl _) (by omega)) z⟩
    have e514 : (514 : Int32) * nI M = nI (514 * M + 0) := by rw [← ix514, nI_0]; simp
    unfold p_M_number_25
    rw [e514, nI_clamp (n := 514 * M + 0) (by omega), nI_clamp (n := M) (by omega)]
    refine ⟨vp_in_nI (by omega) (by omega), q_M_groupAt (k := 0) hA hM hG hpos ?_⟩
    rw [g0]
    refine ⟨vp_in_nI (by omega) (by omega), hm, n + 1, ?_⟩
    rw [nI_clamp (n := 0) (by omega)]
    refine key n 0 1 (upd fr 0 0) (upd sa (514 * M + 0) 0) (upd gs M 1) (by omega) (by omega) (Blk.refl.upd (by omega)) ?_ ⟨by omega, by omega, pk_us, fun j hj => ?_, fun j h1 h2 => ?_, fun j hj => ?_, fun v hv => ?_⟩
    · have := (Blk.refl (w := 1) (M := M) (f := gs)).upd (k := 0) (x := 1) (by omega)
      rw [show 1 * M + 0 = M by omega] at this
      exact this
    · have : j = 0 := by omega
      subst this; rw [pk_us]; rfl
    · rw [pk_un (by omega)]; exact hI j (by omega)
    · have : j = 0 := by omega
      subst this
      exact ⟨0, hpos, pk_us, g0⟩
    · have : v = 0 := by omega
      subst this
      show 0 < 1
      omega
  · intro m i fr hi hI hk
    refine ⟨hm, ?_⟩
    rw [nI_clamp (n := M) (by omega), hS.no, nI_clamp (n := i) (by omega), nI_1]
    refine ⟨fun z => absurd z (nI_ge hi (by omega)), fun _ => ⟨vp_in_nI (by omega) (by omega), hk _ (fun k hk => ?_)⟩⟩
    by_cases e : k = i
    · subst e; rw [pk_us]
    · rw [pk_un e]; exact hI k (by omega)
theorem q_M_make {D : Md} (hD : DOk D) {M R : Nat} {many lt behind mo fs ls : Nat → Int32} (H : RefMd D M R many lt behind mo fs ls) {ma no se st gr sa fr gs : Nat → Int32} (h0 : ¬ ma M = 0 → ∃ g n s, RM D M no se st gr sa gs g n s) {post : _}
    (hp : ∀ ma' no' se' st' gr' sa' fr' gs' g n s, Blk 1 M ma ma' → Blk 1 M no no' → Blk 514 M se se' → Blk 3084 M st st' → Blk 514 M gr gr' → Blk 514 M sa sa' → Blk 1 M gs gs' → ma' M = (if ma M = 0 then vp_nar .boolean 1 else ma M) → RM D M no' se' st' gr' sa' gs' g n s → post ma' no' se' st' gr' sa' fr' gs') :
    p_M_make (nI R) ma no mo fs many se behind lt st ls gr sa fr gs (nI M) post := by
  have hM := H.hM
  have hm := vp_in_nI hM (by omega : 3 < 2 ^ 31)
  have hA := au_ok hD
  have hle := hA.le
  refine ⟨hm, ?_⟩
  rw [nI_clamp (by omega)]
  refine ⟨fun z => ⟨hm, hm, 514, ?_⟩, fun z => ?_⟩
  · rw [if_pos z] at hp
    have e1 : ∀ f x, Blk 1 M f (upd f M x) := fun f x => by
      have := (Blk.refl (w := 1) (M := M) (f := f)).upd (k := 0) (x := x) (by omega)
      rw [show 1 * M + 0 = M by omega] at this
      exact this
    refine q_M_make26 hD H 513 0 [0] _ _ _ (by omega) BI.one ⟨pk_us, fun k h1 h2 => absurd h2 (by simp; omega), fun t ht => absurd ht (Nat.not_lt_zero _)⟩ (fun no' se' st' b1 b2 b3 hN => ?_)
    have hS : RS D M no' se' st' := RS.of hD (by
      rw [D.sets_eq]; exact hN)
    -- winners as the first labels
    refine pk_loop (fun m i gr' => p_M_make_111 (nI R) mo ls (nI M) post m (nI i) (upd ma M (vp_nar .boolean 1)) no' se' st' gr' sa fr gs) (fun i gr' => Blk 514 M gr gr' ∧ ∀ k, k < i → gr' (514 * M + k) = D.au.wn k) D.au.N 0 gr (Nat.zero_le _) ⟨Blk.refl, fun k hk => absurd hk (Nat.not_lt_zero _)⟩ ?_ ?_
    · rintro m gr' ⟨c1, hw⟩
      refine ⟨hm, ?_⟩
      rw [nI_clamp (by omega), hS.no]
      refine ⟨fun _ => ?_, fun z => absurd (nI_le (Nat.le_refl _) (by omega)) z⟩
      have hwn : ∀ k : Nat, ∃ r, r < 17 ∧ D.au.wn k + 1 = nI r := fun k => by
        obtain ⟨r, h1, h2, -⟩ := hD.win1 (nd D.sets k)
        exact ⟨r, h1, h2⟩
      let g : Nat → Nat := fun k => Classical.choose (hwn k)
      have hg : ∀ k, g k < 17 ∧ D.au.wn k + 1 = nI (g k) := fun k => Classical.choose_spec (hwn k)
      have hinj : ∀ a b : Int32, a + 1 = b + 1 → a = b := fun a b q => by
        have : a + 1 - 1 = b + 1 - 1 := by rw [q]
        simpa using this
      have hgw : ∀ i j, D.au.wn i = D.au.wn j ↔ g i = g j := fun i j => by
        constructor
        · intro e
          have : nI (g i) = nI (g j) := by rw [← (hg i).2, ← (hg j).2, e]
          exact (nI_eq (by have := (hg i).1; omega) (by have := (hg j).1; omega)).mp this
        · intro e
          exact hinj _ _ (by rw [(hg i).2, (hg j).2, e])
      -- rounds
      have key : ∀ (d r cnt : Nat) (bef : Int32) (g : Nat → Nat) (gm gr' sa' fr' : Nat → Int32), r + d = 513 → r ≤ cnt → cnt ≤ 512 → (bef = -1 ∨ ∃ b, b < cnt ∧ bef = nI b) → Blk 514 M gr gr' → Blk 514 M sa sa' → GG D.au M gr' gm g → Lab D.au g → (cnt = 0 ∨ (∃ s, Canon D.au.N g cnt s)) → p_M_make_149 (nI M) post (d + 2) bef (nI cnt) (upd ma M (vp_nar .boolean 1)) no' se' st' gr' sa' fr' gs := by
        intro d
        induction d with
        | zero => intro r cnt bef g gm gr' sa' fr' h1 h2 h3; omega
        | succ d ih =>
          intro r cnt bef g gm gr' sa' fr' hd hrc hc5 hbef c1 c2 hG hl hcan
          have hbn : ¬ nI cnt = bef := by
            rcases hbef with rfl | ⟨b, hb, rfl⟩
            · exact nI_nm1 (by omega)
            · intro e
              have := (nI_eq (by omega) (by omega)).mp e
              omega
          refine ⟨fun z => absurd z hbn, fun _ => q_M_split hA hM hS hG (fun k hk => by have := hl.lt k hk; omega) (fun n f s sa2 gr2 fr2 hF d1 d2 hgr2 hsa2 => ?_)⟩
          have hnN := hF.can.le
          have hn0 := hF.pos hA
          have hgrow : cnt ≤ n := by
            rcases hcan with z | ⟨s0, hc⟩
            · omega
            · exact hF.grow hc
          rcases Nat.eq_or_lt_of_le hgrow with e | e
          · have hMi : Mini D.au f n s := by
              rcases hcan with z | ⟨s0, hc⟩
              · omega
              · subst e; exact hF.done hA hl hc
            subst e
            show p_M_make_149 (nI M) post (d + 1 + 1) _ _ _ _ _ _ _ _ _ _
            refine ⟨fun _ => ?_, fun z => absurd rfl z⟩
            refine q_M_number hD hM hS hgr2 hMi (fun fr3 sa3 gr3 gs3 e1' e2 e3 hR => ?_)
            exact hp _ _ _ _ _ _ _ _ f cnt s (e1 _ _) ((e1 _ _).trans b1) b2 b3 ((c1.trans d2).trans e2) ((c2.trans d1).trans e1') e3 pk_us hR
          · exact ih (r + 1) n (nI cnt) f (fun k => nI (f k)) gr2 sa2 fr2 (by omega) (by omega) (by omega) (Or.inr ⟨cnt, e, rfl⟩) (c1.trans d2) (c2.trans d1) (GG.nat hA hgr2 (fun k hk => by have := hF.can.2 k hk; omega)) (hF.lab hA hl) (Or.inr ⟨s, hF.can⟩)
      refine ⟨515, ?_⟩
      exact key 513 0 0 (-1) g D.au.wn gr' sa fr (by omega) (by omega) (by omega) (Or.inl rfl) c1 Blk.refl ⟨hw, fun i j _ _ => hgw i j⟩ ⟨fun i hi => by have := (hg i).1; omega, fun i j hi hj e => (hgw i j).mp e.wn, fun i j hi hj e => (hgw i j).mpr e⟩ (Or.inl rfl)
    · rintro m i gr' hi ⟨c1, hw⟩ hk
      refine ⟨hm, ?_⟩
      rw [nI_clamp (by omega), hS.no]
      refine ⟨fun z => absurd z (nI_ge hi (by omega)), fun _ => ?_⟩
      refine q_M_wins H (s := nd D.sets i) (by omega) (fun hpos => hS.se i hpos hi) (fun e => by rw [e]; exact (D.sets_ok hD.hP).ok.z) ((D.sets_ok hD.hP).ok.s9 _ (nd_mem hi)) ?_
      rw [ix514, nI_clamp (n := 514 * M + i) (by omega), nI_1]
      refine ⟨vp_in_nI (by omega) (by omega), hk _ ⟨c1.upd (by omega), fun k hk => ?_⟩⟩
      by_cases e : k = i
      · subst e; rw [pk_us]; rfl
      · rw [pk_un (by omega)]; exact hw k (by omega)
  · obtain ⟨g, n, s, hR⟩ := h0 z
    rw [if_neg z] at hp
    exact hp _ _ _ _ _ _ _ _ g n s Blk.refl Blk.refl Blk.refl Blk.refl Blk.refl Blk.refl Blk.refl rfl hR
