/-! The widest gap: the whole -/
theorem P1.sc {n : Nat} {tr : Nat → Nat → Option Nat} {w : Nat → Prop} {Sc Sc' : Nat → Nat → Prop} {b : Nat} {bt : Nat → Nat} {wd : Nat} {iB fr be : Nat → Int32} (h : P1 n tr w Sc b bt wd iB fr be) (hs : ∀ y c, Sc' y c → Sc y c) : P1 n tr w Sc' b bt wd iB fr be :=
  ⟨h.be, h.bn, h.bw, h.br, h.fr, h.ib, h.inj, h.wd1, h.wa, fun y c x q => h.cw y c x (hs y c q), fun y c x q => h.cb y c x (hs y c q)⟩
theorem q_widest {n : Nat} {fa fw : Nat → Int32} {tr : Nat → Nat → Option Nat} {w : Nat → Prop} (Q : QM n fa fw tr w) {post : Int32 → Int32 → Int32 → Int32 → (Nat → Int32) → (Nat → Int32) → (Nat → Int32) → (Nat → Int32) → (Nat → Int32) → Prop}
    (hp : ∀ r a1 a2 a3 a4 a5 a6 a7 a8, GapS (Ed n tr) (Wn n w) n r → post r a1 a2 a3 a4 a5 a6 a7 a8) : p_GapFinder_widest 0 0 0 n fw (6 * n) fa n (fun _ => 0) n (fun _ => 0) n (fun _ => 0) n (fun _ => 0) n (fun _ => 0) post := by
  have hle := Q.le
  have key37 : ∀ (d i b wd : Nat) (bt : Nat → Nat) (iB fr be : Nat → Int32), i + d = n → i ≤ b → P1 n tr w (fun y c => c < 6 ∧ (Wn n w y ∨ ∃ j, j < i ∧ bt j = y)) b bt wd iB fr be → p_GapFinder_widest_37 n fw (6 * n) fa n n n n n post (d + 1) (nI i) (nI b) 0 (nI wd) iB fr be (fun _ => 0) (fun _ => 0) := by
    intro d
    induction d with
    | zero =>
      intro i b wd bt iB fr be hd hib h
      have hbn : b ≤ n := inj_le h.bn h.inj
      have hb : b = i := by omega
      refine ⟨fun _ => ?_, fun z => absurd (nI_le (by omega) (by omega)) z⟩
      have F : FB n tr w b bt wd := ⟨h.bn, h.bw, h.br, h.inj, h.wd1, h.wa, fun y c x q hc => h.cw y c x ⟨hc, q.elim Or.inl (fun ⟨j, hj, e⟩ => Or.inr ⟨j, by omega, e⟩)⟩, fun y c x q hc => h.cb y c x ⟨hc, q.elim Or.inl (fun ⟨j, hj, e⟩ => Or.inr ⟨j, by omega, e⟩)⟩⟩
      exact q_widest70 Q F h.be h.fr hp
    | succ d ih =>
      intro i b wd bt iB fr be hd hib h
      have hbn : b ≤ n := inj_le h.bn h.inj
      by_cases hlt : i < b
      · refine ⟨fun z => absurd z (nI_ge hlt (by omega)), fun _ => ⟨fun z => absurd z (nI_ge (b := n) (by omega) (by omega)), fun _ => ⟨vp_in_nI (by omega) (by omega), ?_⟩⟩⟩
        rw [nI_clamp (n := i) (by omega), h.be i hlt, nI_1]
        obtain ⟨m, hm⟩ := h.br i hlt
        refine q_meetF Q h (h.bn i hlt) ⟨m + 1, hm⟩ (fun b' bt' wd' iB' fr' be' e1 e2 h' => ?_)
        refine ih (i + 1) b' wd' bt' iB' fr' be' (by omega) (by omega) (h'.sc fun y c q => ?_)
        rcases q with ⟨hc, z | ⟨j, hj, e⟩⟩
        · exact Or.inl ⟨hc, Or.inl z⟩
        · by_cases y1 : j = i
          · subst y1
            rw [e1 j hlt] at e
            exact Or.inr ⟨e.symm, hc⟩
          · rw [e1 j (by omega)] at e
            exact Or.inl ⟨hc, Or.inr ⟨j, by omega, e⟩⟩
      · have hb : b = i := by omega
        refine ⟨fun _ => ?_, fun z => absurd (nI_le (by omega) (by omega)) z⟩
        have F : FB n tr w b bt wd := ⟨h.bn, h.bw, h.br, h.inj, h.wd1, h.wa, fun y c x q hc => h.cw y c x ⟨hc, q.elim Or.inl (fun ⟨j, hj, e⟩ => Or.inr ⟨j, by omega, e⟩)⟩, fun y c x q hc => h.cb y c x ⟨hc, q.elim Or.inl (fun ⟨j, hj, e⟩ => Or.inr ⟨j, by omega, e⟩)⟩⟩
        exact q_widest70 Q F h.be h.fr hp
  refine pk_loop (σ := Nat × (Nat → Nat) × Nat × (Nat → Int32) × (Nat → Int32) × (Nat → Int32)) (fun k i z => p_GapFinder_widest_2 n fw (6 * n) fa n n n n n post k (nI i) (nI z.1) 0 (nI z.2.2.1) z.2.2.2.1 z.2.2.2.2.1 z.2.2.2.2.2 (fun _ => 0) (fun _ => 0)) (fun i z => P1 n tr w (fun y c => y < i ∧ w y ∧ c < 6) z.1 z.2.1 z.2.2.1 z.2.2.2.1 z.2.2.2.2.1 z.2.2.2.2.2) n 0 (0, id, 0, (fun _ => 0), (fun _ => 0), (fun _ => 0)) (Nat.zero_le _) ?_ ?_ ?_
  · exact ⟨fun i hi => absurd hi (Nat.not_lt_zero _), fun i hi => absurd hi (Nat.not_lt_zero _), fun i hi => absurd hi (Nat.not_lt_zero _), fun i hi => absurd hi (Nat.not_lt_zero _), fun i hi => absurd hi (Nat.not_lt_zero _), fun x hx => ⟨fun _ ⟨i, hi, _⟩ => absurd hi (Nat.not_lt_zero _), fun _ => rfl⟩, fun i j hi => absurd hi (Nat.not_lt_zero _), Nat.zero_le _, fun z => absurd z (by decide), fun y c x hs => absurd hs.1 (Nat.not_lt_zero _), fun y c x hs => absurd hs.1 (Nat.not_lt_zero _)⟩
  · rintro k ⟨b, bt, wd, iB, fr, be⟩ h
    dsimp only at h ⊢
    refine ⟨fun _ => ⟨n + 1, ?_⟩, fun z => absurd (nI_le (Nat.le_refl _) (by omega)) z⟩
    refine key37 n 0 b wd bt iB fr be (by omega) (Nat.zero_le _) (h.sc fun y c q => ?_)
    rcases q with ⟨hc, z | ⟨j, hj, e⟩⟩
    · exact ⟨z.1, z.2, hc⟩
    · exact absurd hj (Nat.not_lt_zero _)
  · rintro k i ⟨b, bt, wd, iB, fr, be⟩ hi h hk
    dsimp only at h hk ⊢
    refine ⟨fun z => absurd z (nI_ge hi (by omega)), fun _ => ?_⟩
    rw [nI_1]
    refine q_hasW Q hi (fun hw => ⟨fun _ => hk (b, bt, wd, iB, fr, be) (h.sc fun y c q => ?_), fun z => absurd rfl z⟩) (fun hw => ⟨fun z => absurd z (by decide), fun _ => ?_⟩)
    · refine ⟨?_, q.2⟩
      rcases Nat.lt_or_ge y i with z | z
      · exact z
      · have : y = i := by omega
        subst this
        exact absurd q.2.1 hw
    · refine q_meetF Q h hi ⟨0, hi, hw⟩ (fun b' bt' wd' iB' fr' be' e1 e2 h' => hk (b', bt', wd', iB', fr', be') (h'.sc fun y c q => ?_))
      by_cases e : y = i
      · exact Or.inr ⟨e, q.2.2⟩
      · exact Or.inl ⟨by omega, q.2⟩
theorem q_widestGap {n : Nat} {fa fw : Nat → Int32} {tr : Nat → Nat → Option Nat} {w : Nat → Prop} (Q : QM n fa fw tr w) {gap kn : Int32} (hk : ¬ kn = 0 → GapS (Ed n tr) (Wn n w) n gap) {post : Int32 → Int32 → Int32 → Prop} (hp : ∀ r, GapS (Ed n tr) (Wn n w) n r → ∀ k', ¬ k' = 0 → post r r k') : p_Machine_widestGap gap kn n fw (6 * n) fa post := by
  have hle := Q.le
  refine ⟨fun z => hp gap (hk z) kn z, fun z => ?_⟩
  have hn : ¬ nI n < 0 := nI_pos (by omega)
  have e : (Int32.ofNat n).toNatClampNeg = n := nI_clamp (by omega)
  refine ⟨hn, by rw [e]; exact hle, ?_⟩
  refine ⟨hn, by rw [e]; exact hle, ?_⟩
  refine ⟨hn, by rw [e]; exact hle, ?_⟩
  refine ⟨hn, by rw [e]; exact hle, ?_⟩
  refine ⟨hn, by rw [e]; exact hle, ?_⟩
  rw [e]
  exact q_widest Q (fun r _ _ _ _ _ _ _ _ h => hp r h _ (by decide))
theorem GapS.uniq {E : Nat → Nat → Prop} {W : Nat → Prop} {n : Nat} {r r' : Int32} (h : GapS E W n r) (h' : GapS E W n r') : r = r' := by
  rcases h with ⟨rfl, h⟩ | ⟨b, hb, rfl, hm, he⟩ <;> rcases h' with ⟨rfl, h'⟩ | ⟨b', hb', rfl, hm', he'⟩
  · rfl
  · obtain ⟨x, hx⟩ := h (n + 1)
    exact absurd hx (he' x)
  · obtain ⟨x, hx⟩ := h' (n + 1)
    exact absurd hx (he x)
  · have h1 : b ≤ b' := by
      rcases hm.1 with z | ⟨m, y, x, z, a1, a2, a3⟩
      · omega
      · have := hm'.2 m y x a1 a2 a3; omega
    have h2 : b' ≤ b := by
      rcases hm'.1 with z | ⟨m, y, x, z, a1, a2, a3⟩
      · omega
      · have := hm.2 m y x a1 a2 a3; omega
    rw [show b = b' by omega]
