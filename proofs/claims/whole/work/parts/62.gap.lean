/-! The widest gap: how far a winner may lie behind another -/
theorem inj_le {b n : Nat} {f : Nat → Nat} (h : ∀ i, i < b → f i < n) (hi : ∀ i j, i < b → j < b → f i = f j → i = j) : b ≤ n := by
  have := nodup_le n ((List.range b).map f) (by
    rw [List.nodup_iff_pairwise_ne, List.pairwise_map]
    refine (List.pairwise_lt_range).imp_of_mem ?_
    intro i j h1 h2 h3 e
    have := hi i j (List.mem_range.mp h1) (List.mem_range.mp h2) e
    omega) (fun x hx => by
    obtain ⟨i, h1, rfl⟩ := List.mem_map.mp hx
    exact h i (List.mem_range.mp h1))
  simpa using this
def sumF (f : Nat → Nat) : Nat → Nat
  | 0 => 0
  | m + 1 => sumF f m + f m
theorem sum_congr {f g : Nat → Nat} : ∀ m, (∀ e, e < m → f e = g e) → sumF f m = sumF g m := by
  intro m
  induction m with
  | zero => intro _; rfl
  | succ m ih => intro h; unfold sumF; rw [ih (fun e he => h e (by omega)), h m (by omega)]
theorem sum_upd {f g : Nat → Nat} {e0 : Nat} : ∀ m, e0 < m → (∀ e, e ≠ e0 → f e = g e) → sumF g m + f e0 = sumF f m + g e0 := by
  intro m
  induction m with
  | zero => intro h; omega
  | succ m ih =>
    intro h he
    unfold sumF
    by_cases q : e0 = m
    · subst q
      rw [sum_congr e0 (fun e h2 => he e (by omega))]; omega
    · have := ih (by omega) he
      rw [he m (by omega)]; omega
theorem sum_0 {f : Nat → Nat} : ∀ m, sumF f m = 0 → ∀ e, e < m → f e = 0 := by
  intro m
  induction m with
  | zero => intro _ e he; omega
  | succ m ih =>
    intro h e he
    unfold sumF at h
    by_cases q : e = m
    · subst q; omega
    · exact ih (by omega) e (by omega)
theorem sum_p {f : Nat → Nat} : ∀ m, sumF f m ≠ 0 → ∃ e, e < m ∧ f e ≠ 0 := by
  intro m
  induction m with
  | zero => intro h; exact absurd rfl h
  | succ m ih =>
    intro h
    unfold sumF at h
    by_cases q : f m = 0
    · obtain ⟨e, h1, h2⟩ := ih (by omega)
      exact ⟨e, by omega, h2⟩
    · exact ⟨m, by omega, q⟩
theorem sum_le {f : Nat → Nat} (h : ∀ e, f e ≤ 1) : ∀ m, sumF f m ≤ m := by
  intro m
  induction m with
  | zero => exact Nat.le_refl _
  | succ m ih => unfold sumF; have := h m; omega
/-- a machine of n states -/
def QM (n : Nat) (fa fw : Nat → Int32) (tr : Nat → Nat → Option Nat) (w : Nat → Prop) : Prop :=
  (n ≤ 512) ∧
  (∀ h c, h < n → c < 6 → tr h c = none → fa (6 * h + c) = -1) ∧
  (∀ h c h', h < n → c < 6 → tr h c = some h' → h' < n ∧ fa (6 * h + c) = nI h') ∧
  (∀ h, h < n → (fw h = -1 ↔ ¬ w h))
theorem QM.le {n : Nat} {fa fw : Nat → Int32} {tr : Nat → Nat → Option Nat} {w : Nat → Prop} (h_ : QM n fa fw tr w) : n ≤ 512 := h_.1
theorem QM.no {n : Nat} {fa fw : Nat → Int32} {tr : Nat → Nat → Option Nat} {w : Nat → Prop} (h_ : QM n fa fw tr w) : ∀ h c, h < n → c < 6 → tr h c = none → fa (6 * h + c) = -1 := h_.2.1
theorem QM.so {n : Nat} {fa fw : Nat → Int32} {tr : Nat → Nat → Option Nat} {w : Nat → Prop} (h_ : QM n fa fw tr w) : ∀ h c h', h < n → c < 6 → tr h c = some h' → h' < n ∧ fa (6 * h + c) = nI h' := h_.2.2.1
theorem QM.wi {n : Nat} {fa fw : Nat → Int32} {tr : Nat → Nat → Option Nat} {w : Nat → Prop} (h_ : QM n fa fw tr w) : ∀ h, h < n → (fw h = -1 ↔ ¬ w h) := h_.2.2.2

theorem QM.aft {n : Nat} {fa fw : Nat → Int32} {tr : Nat → Nat → Option Nat} {w : Nat → Prop} (h : QM n fa fw tr w) {y c : Nat} (hy : y < n) (hc : c < 6) : mAft n fa (nI y) (nI c) = fa (6 * y + c) := by
  have := h.le
  rw [mAft, if_pos ⟨nI_pos (by omega), nI_ge hy (by omega), nI_pos (by omega), nI_ge (b := 6) hc (by omega)⟩]
  rw [show nI y * 6 + nI c = nI (6 * y + c) by rw [show (6 : Int32) = nI 6 from rfl, pk_mul, nI_add, Nat.mul_comm], nI_clamp (by omega)]
theorem q_step {n : Nat} {fa fw : Nat → Int32} {tr : Nat → Nat → Option Nat} {w : Nat → Prop} (h : QM n fa fw tr w) {y c : Nat} (hy : y < n) (hc : c < 6) {post : Int32 → Prop} (h0 : tr y c = none → post (-1)) (h1 : ∀ x, tr y c = some x → x < n → post (nI x)) : p_Machine_after n (6 * n) fa (nI y) (nI c) post := by
  refine q_after h.le ?_
  rw [h.aft hy hc]
  cases e : tr y c with
  | none => rw [h.no y c hy hc e]; exact h0 e
  | some x => rw [(h.so y c x hy hc e).2]; exact h1 x e (h.so y c x hy hc e).1
theorem q_hasW {n : Nat} {fa fw : Nat → Int32} {tr : Nat → Nat → Option Nat} {w : Nat → Prop} (h : QM n fa fw tr w) {y : Nat} (hy : y < n) {post : Int32 → Prop} (h0 : ¬ w y → post 0) (h1 : w y → post 1) : p_Machine_hasWinner n fw (nI y) post := by
  have hle := h.le
  refine q_hasWinner h.le ?_
  have e : mWin n fw (nI y) = fw y := by
    rw [mWin, if_pos ⟨nI_pos (by omega), nI_ge hy (by omega)⟩, nI_clamp (by omega)]
  rw [e]
  by_cases q : fw y = -1
  · rw [if_pos q]; exact h0 ((h.wi y hy).mp q)
  · rw [if_neg q]; exact h1 (Classical.byContradiction fun z => q ((h.wi y hy).mpr z))
/-- an edge -/
def Ed (n : Nat) (tr : Nat → Nat → Option Nat) (a b : Nat) : Prop := a < n ∧ b < n ∧ ∃ c, c < 6 ∧ tr a c = some b
/-- m letters behind a winner, and none on the way (nor here, if m isn't 0) -/
def Nw (E : Nat → Nat → Prop) (W : Nat → Prop) : Nat → Nat → Prop
  | 0, x => W x
  | m + 1, x => (∃ y, Nw E W m y ∧ E y x) ∧ ¬ W x
/-- the widest gap is b -/
def GapM (E : Nat → Nat → Prop) (W : Nat → Prop) (b : Nat) : Prop := (b = 0 ∨ ∃ m y x, b = m + 1 ∧ Nw E W m y ∧ E y x ∧ W x) ∧ ∀ m y x, Nw E W m y → E y x → W x → m + 1 ≤ b
def GapS (E : Nat → Nat → Prop) (W : Nat → Prop) (n : Nat) (r : Int32) : Prop := (r = -1 ∧ ∀ m, ∃ x, Nw E W m x) ∨ ∃ b, b ≤ n + 1 ∧ r = nI b ∧ GapM E W b ∧ ∀ x, ¬ Nw E W (n + 1) x
/-- winners of the machine -/
def Wn (n : Nat) (w : Nat → Prop) (x : Nat) : Prop := x < n ∧ w x
/-- the states between, as far as found; Sc: the steps looked at -/
def P1 (n : Nat) (tr : Nat → Nat → Option Nat) (w : Nat → Prop) (Sc : Nat → Nat → Prop) (b : Nat) (bt : Nat → Nat) (wd : Nat) (iB fr be : Nat → Int32) : Prop :=
  (∀ i, i < b → be i = nI (bt i)) ∧
  (∀ i, i < b → bt i < n) ∧
  (∀ i, i < b → ¬ w (bt i)) ∧
  (∀ i, i < b → ∃ m, Nw (Ed n tr) (Wn n w) (m + 1) (bt i)) ∧
  (∀ i, i < b → fr (bt i) = 1) ∧
  (∀ x, x < n → (iB x = 0 ↔ ¬ ∃ i, i < b ∧ bt i = x)) ∧
  (∀ i j, i < b → j < b → bt i = bt j → i = j) ∧
  (wd ≤ 1) ∧
  (wd = 1 → ∃ m y x, Nw (Ed n tr) (Wn n w) m y ∧ Ed n tr y x ∧ Wn n w x) ∧
  (∀ y c x, Sc y c → tr y c = some x → x < n → w x → wd = 1) ∧
  (∀ y c x, Sc y c → tr y c = some x → x < n → ¬ w x → ∃ i, i < b ∧ bt i = x)
theorem P1.be {n : Nat} {tr : Nat → Nat → Option Nat} {w : Nat → Prop} {Sc : Nat → Nat → Prop} {b : Nat} {bt : Nat → Nat} {wd : Nat} {iB fr be : Nat → Int32} (h_ : P1 n tr w Sc b bt wd iB fr be) : ∀ i, i < b → be i = nI (bt i) := h_.1
theorem P1.bn {n : Nat} {tr : Nat → Nat → Option Nat} {w : Nat → Prop} {Sc : Nat → Nat → Prop} {b : Nat} {bt : Nat → Nat} {wd : Nat} {iB fr be : Nat → Int32} (h_ : P1 n tr w Sc b bt wd iB fr be) : ∀ i, i < b → bt i < n := h_.2.1
theorem P1.bw {n : Nat} {tr : Nat → Nat → Option Nat} {w : Nat → Prop} {Sc : Nat → Nat → Prop} {b : Nat} {bt : Nat → Nat} {wd : Nat} {iB fr be : Nat → Int32} (h_ : P1 n tr w Sc b bt wd iB fr be) : ∀ i, i < b → ¬ w (bt i) := h_.2.2.1
theorem P1.br {n : Nat} {tr : Nat → Nat → Option Nat} {w : Nat → Prop} {Sc : Nat → Nat → Prop} {b : Nat} {bt : Nat → Nat} {wd : Nat} {iB fr be : Nat → Int32} (h_ : P1 n tr w Sc b bt wd iB fr be) : ∀ i, i < b → ∃ m, Nw (Ed n tr) (Wn n w) (m + 1) (bt i) := h_.2.2.2.1
theorem P1.fr {n : Nat} {tr : Nat → Nat → Option Nat} {w : Nat → Prop} {Sc : Nat → Nat → Prop} {b : Nat} {bt : Nat → Nat} {wd : Nat} {iB fr be : Nat → Int32} (h_ : P1 n tr w Sc b bt wd iB fr be) : ∀ i, i < b → fr (bt i) = 1 := h_.2.2.2.2.1
theorem P1.ib {n : Nat} {tr : Nat → Nat → Option Nat} {w : Nat → Prop} {Sc : Nat → Nat → Prop} {b : Nat} {bt : Nat → Nat} {wd : Nat} {iB fr be : Nat → Int32} (h_ : P1 n tr w Sc b bt wd iB fr be) : ∀ x, x < n → (iB x = 0 ↔ ¬ ∃ i, i < b ∧ bt i = x) := h_.2.2.2.2.2.1
theorem P1.inj {n : Nat} {tr : Nat → Nat → Option Nat} {w : Nat → Prop} {Sc : Nat → Nat → Prop} {b : Nat} {bt : Nat → Nat} {wd : Nat} {iB fr be : Nat → Int32} (h_ : P1 n tr w Sc b bt wd iB fr be) : ∀ i j, i < b → j < b → bt i = bt j → i = j := h_.2.2.2.2.2.2.1
theorem P1.wd1 {n : Nat} {tr : Nat → Nat → Option Nat} {w : Nat → Prop} {Sc : Nat → Nat → Prop} {b : Nat} {bt : Nat → Nat} {wd : Nat} {iB fr be : Nat → Int32} (h_ : P1 n tr w Sc b bt wd iB fr be) : wd ≤ 1 := h_.2.2.2.2.2.2.2.1
theorem P1.wa {n : Nat} {tr : Nat → Nat → Option Nat} {w : Nat → Prop} {Sc : Nat → Nat → Prop} {b : Nat} {bt : Nat → Nat} {wd : Nat} {iB fr be : Nat → Int32} (h_ : P1 n tr w Sc b bt wd iB fr be) : wd = 1 → ∃ m y x, Nw (Ed n tr) (Wn n w) m y ∧ Ed n tr y x ∧ Wn n w x := h_.2.2.2.2.2.2.2.2.1
theorem P1.cw {n : Nat} {tr : Nat → Nat → Option Nat} {w : Nat → Prop} {Sc : Nat → Nat → Prop} {b : Nat} {bt : Nat → Nat} {wd : Nat} {iB fr be : Nat → Int32} (h_ : P1 n tr w Sc b bt wd iB fr be) : ∀ y c x, Sc y c → tr y c = some x → x < n → w x → wd = 1 := h_.2.2.2.2.2.2.2.2.2.1
theorem P1.cb {n : Nat} {tr : Nat → Nat → Option Nat} {w : Nat → Prop} {Sc : Nat → Nat → Prop} {b : Nat} {bt : Nat → Nat} {wd : Nat} {iB fr be : Nat → Int32} (h_ : P1 n tr w Sc b bt wd iB fr be) : ∀ y c x, Sc y c → tr y c = some x → x < n → ¬ w x → ∃ i, i < b ∧ bt i = x := h_.2.2.2.2.2.2.2.2.2.2

theorem q_meetF {n : Nat} {fa fw : Nat → Int32} {tr : Nat → Nat → Option Nat} {w : Nat → Prop} (Q : QM n fa fw tr w) {b wd : Nat} {bt : Nat → Nat} {Sc : Nat → Nat → Prop} {iB fr be : Nat → Int32} (h : P1 n tr w Sc b bt wd iB fr be) {y : Nat} (hy : y < n) (hr : ∃ m, Nw (Ed n tr) (Wn n w) m y) {post : Int32 → Int32 → (Nat → Int32) → (Nat → Int32) → (Nat → Int32) → Prop}
    (hp : ∀ b' bt' wd' iB' fr' be', (∀ i, i < b → bt' i = bt i) → b ≤ b' → P1 n tr w (fun z c => Sc z c ∨ (z = y ∧ c < 6)) b' bt' wd' iB' fr' be' → post (nI b') (nI wd') iB' fr' be') :
    p_GapFinder_meetFollowers (nI b) (nI wd) n fw (6 * n) fa n iB n fr n be (nI y) post := by
  have hle := Q.le
  refine pk_loop (σ := Nat × (Nat → Nat) × Nat × (Nat → Int32) × (Nat → Int32) × (Nat → Int32)) (fun k c q => p_GapFinder_meetFollowers_2 n fw (6 * n) fa n n n (nI y) post k (nI c) (nI q.1) (nI q.2.2.1) q.2.2.2.1 q.2.2.2.2.1 q.2.2.2.2.2) (fun c q => (∀ i, i < b → q.2.1 i = bt i) ∧ b ≤ q.1 ∧ P1 n tr w (fun z d => Sc z d ∨ (z = y ∧ d < c)) q.1 q.2.1 q.2.2.1 q.2.2.2.1 q.2.2.2.2.1 q.2.2.2.2.2) 6 0 (b, bt, wd, iB, fr, be) (Nat.zero_le _) ⟨fun _ _ => rfl, Nat.le_refl _, ⟨h.be, h.bn, h.bw, h.br, h.fr, h.ib, h.inj, h.wd1, h.wa, fun z c x hs => h.cw z c x (hs.elim id (fun q => absurd q.2 (Nat.not_lt_zero _))), fun z c x hs => h.cb z c x (hs.elim id (fun q => absurd q.2 (Nat.not_lt_zero _)))⟩⟩ ?_ ?_
  · rintro k ⟨b', bt', wd', iB', fr', be'⟩ ⟨e1, e2, hI⟩
    exact ⟨fun _ => hp _ _ _ _ _ _ e1 e2 hI, fun z => absurd (by decide) z⟩
  · rintro k c ⟨b', bt', wd', iB', fr', be'⟩ hc ⟨e1, e2, hI⟩ hk
    dsimp only at e1 e2 hI hk ⊢
    have hbn : b' ≤ n := inj_le hI.bn hI.inj
    refine ⟨fun z => absurd z (nI_ge (b := 6) hc (by omega)), fun _ => ?_⟩
    rw [nI_1]
    have hsplit : ∀ z d, (Sc z d ∨ (z = y ∧ d < c + 1)) → (Sc z d ∨ (z = y ∧ d < c)) ∨ (z = y ∧ d = c) := fun z d q => by
      rcases q with q | ⟨q1, q2⟩
      · exact Or.inl (Or.inl q)
      · by_cases e : d = c
        · exact Or.inr ⟨q1, e⟩
        · exact Or.inl (Or.inr ⟨q1, by omega⟩)
    refine q_step Q hy hc (fun hnone => ⟨fun z => absurd rfl z, fun _ => ?_⟩) (fun x hx hxn => ⟨fun _ => ?_, fun z => absurd z (nI_nm1 (by omega))⟩)
    · refine hk (b', bt', wd', iB', fr', be') ⟨e1, e2, ⟨hI.be, hI.bn, hI.bw, hI.br, hI.fr, hI.ib, hI.inj, hI.wd1, hI.wa, fun z d x hs ht => ?_, fun z d x hs ht => ?_⟩⟩
      · rcases hsplit z d hs with q | ⟨rfl, rfl⟩
        · exact hI.cw z d x q ht
        · rw [hnone] at ht; cases ht
      · rcases hsplit z d hs with q | ⟨rfl, rfl⟩
        · exact hI.cb z d x q ht
        · rw [hnone] at ht; cases ht
    · have hE : Ed n tr y x := ⟨hy, hxn, c, hc, hx⟩
      refine q_hasW Q hxn (fun hw => ⟨fun _ => ?_, fun z => absurd rfl z⟩) (fun hw => ⟨fun z => absurd z (by decide), fun _ => ?_⟩)
      · rw [nI_clamp (n := x) (by omega)]
        refine ⟨vp_in_nI hxn (by omega), fun z => ?_, fun z => ?_⟩
        · have hmem : ∃ i, i < b' ∧ bt' i = x := Classical.byContradiction fun q => z ((hI.ib x hxn).mpr q)
          refine hk (b', bt', wd', iB', fr', be') ⟨e1, e2, ⟨hI.be, hI.bn, hI.bw, hI.br, hI.fr, hI.ib, hI.inj, hI.wd1, hI.wa, fun z d x' hs ht h3 h4 => ?_, fun z d x' hs ht h3 h4 => ?_⟩⟩
          · rcases hsplit z d hs with q | ⟨rfl, rfl⟩
            · exact hI.cw z d x' q ht h3 h4
            · rw [hx] at ht; cases ht; exact absurd h4 hw
          · rcases hsplit z d hs with q | ⟨rfl, rfl⟩
            · exact hI.cb z d x' q ht h3 h4
            · rw [hx] at ht; cases ht; exact hmem
        · have hnew : ¬ ∃ i, i < b' ∧ bt' i = x := (hI.ib x hxn).mp z
          have hinj' : ∀ i j, i < b' + 1 → j < b' + 1 → updN bt' b' x i = updN bt' b' x j → i = j := fun i j hi hj e => by
            by_cases a1 : i = b' <;> by_cases a2 : j = b'
            · omega
            · subst a1; rw [updN_s, updN_n a2] at e
              exact absurd ⟨j, by omega, e.symm⟩ hnew
            · subst a2; rw [updN_s, updN_n a1] at e
              exact absurd ⟨i, by omega, e⟩ hnew
            · rw [updN_n a1, updN_n a2] at e
              exact hI.inj i j (by omega) (by omega) e
          have hbn' : ∀ i, i < b' + 1 → updN bt' b' x i < n := fun i hi => by
            by_cases a1 : i = b'
            · subst a1; rw [updN_s]; exact hxn
            · rw [updN_n a1]; exact hI.bn i (by omega)
          have hb1 : b' + 1 ≤ n := inj_le hbn' hinj'
          have hxi := vp_in_nI hxn (by omega)
          refine ⟨hxi, hxi, vp_in_nI (by omega) (by omega), ?_⟩
          rw [nI_clamp (n := b') (by omega), nI_1, nar1]
          have hfind : ∀ z, (∃ i, i < b' + 1 ∧ updN bt' b' x i = z) ↔ (z = x ∨ ∃ i, i < b' ∧ bt' i = z) := fun z => by
            constructor
            · rintro ⟨i, hi, e⟩
              by_cases a1 : i = b'
              · subst a1; rw [updN_s] at e; exact Or.inl e.symm
              · rw [updN_n a1] at e; exact Or.inr ⟨i, by omega, e⟩
            · rintro (e | ⟨i, hi, e⟩)
              · exact ⟨b', by omega, by rw [updN_s, e]⟩
              · exact ⟨i, by omega, by rw [updN_n (by omega), e]⟩
          refine hk (b' + 1, updN bt' b' x, wd', upd iB' x 1, upd fr' x 1, upd be' b' (nI x)) ⟨fun i hi => ?_, by dsimp only; omega, ?_, hbn', ?_, ?_, ?_, ?_, hinj', hI.wd1, hI.wa, fun z d x' hs ht h3 h4 => ?_, fun z d x' hs ht h3 h4 => ?_⟩
          · dsimp only; rw [updN_n (by omega)]; exact e1 i hi
          · intro i hi
            dsimp only at hi ⊢
            by_cases a1 : i = b'
            · subst a1; rw [updN_s, pk_us]
            · rw [updN_n a1, pk_un a1]; exact hI.be i (by omega)
          · intro i hi
            dsimp only at hi ⊢
            by_cases a1 : i = b'
            · subst a1; rw [updN_s]; exact hw
            · rw [updN_n a1]; exact hI.bw i (by omega)
          · intro i hi
            dsimp only at hi ⊢
            by_cases a1 : i = b'
            · subst a1; rw [updN_s]
              obtain ⟨m, hm⟩ := hr
              exact ⟨m, ⟨y, hm, hE⟩, fun q => hw q.2⟩
            · rw [updN_n a1]; exact hI.br i (by omega)
          · intro i hi
            dsimp only at hi ⊢
            by_cases a1 : i = b'
            · subst a1; rw [updN_s, pk_us]
            · rw [updN_n a1]
              by_cases a2 : bt' i = x
              · rw [a2, pk_us]
              · rw [pk_un a2]; exact hI.fr i (by omega)
          · intro z hz
            dsimp only
            rw [hfind z]
            by_cases a1 : z = x
            · subst a1; rw [pk_us]
              exact ⟨fun q => absurd q (by decide), fun q => absurd (Or.inl rfl) q⟩
            · rw [pk_un a1, hI.ib z hz]
              exact ⟨fun q r => q (r.elim (fun e => absurd e a1) id), fun q r => q (Or.inr r)⟩
          · rcases hsplit z d hs with q | ⟨rfl, rfl⟩
            · exact hI.cw z d x' q ht h3 h4
            · rw [hx] at ht; cases ht; exact absurd h4 hw
          · dsimp only
            rw [hfind x']
            rcases hsplit z d hs with q | ⟨rfl, rfl⟩
            · exact Or.inr (hI.cb z d x' q ht h3 h4)
            · rw [hx] at ht; cases ht; exact Or.inl rfl
      · refine hk (b', bt', 1, iB', fr', be') ⟨e1, e2, ⟨hI.be, hI.bn, hI.bw, hI.br, hI.fr, hI.ib, hI.inj, Nat.le_refl _, fun _ => ?_, fun z d x' hs ht h3 h4 => rfl, fun z d x' hs ht h3 h4 => ?_⟩⟩
        · obtain ⟨m, hm⟩ := hr
          exact ⟨m, y, x, hm, hE, hxn, hw⟩
        · rcases hsplit z d hs with q | ⟨rfl, rfl⟩
          · exact hI.cb z d x' q ht h3 h4
          · rw [hx] at ht; cases ht; exact absurd hw h4