/-! rule and type of the reference; type of the program -/
theorem q_M_rule {tp : Nat → Nat} {t : Nat} {tape : Nat → Int32} {th en : Int32} {D : Nat → Md} {R : Nat} {x1 x2 : Int32} {cf cl ce rf rl re hp pf rb pl pe rlt many lts rat be mo ao fs ls ma : Nat → Int32} (ht : t ≤ 24) (htp : ∀ i, i < t → tape i = nI (tp i) ∧ tp i < 256) (hD : ∀ M, M < 3 → (D M).P ≤ 9 ∧ many M = nI (D M).P) (hR : R ≤ 16) {post : _}
    (h0 : ∀ j, j ≤ t → rdT tp t t 0 TS0 none = (j, none) → ∀ a1 a2 a3 a4 b1 b2 b3 b4 b5 b6 b7 b8 b9 c1 c2 c3, post ((-2) - nI j) 0 0 (nI R) a1 a2 a3 a4 b1 b2 b3 b4 b5 b6 b7 b8 b9 c1 c2 c3 many lts rat be mo ao fs ls ma)
    (h1 : ∀ S, rdT tp t t 0 TS0 none = (t, some S) → (UW th en ∨ ¬ RoomR (fun M => (D M).P) R S.q x1 x2) → ∀ a1 a2 a3 a4 b1 b2 b3 b4 b5 b6 b7 b8 b9 c1 c2 c3, post (-1) 0 0 (nI R) a1 a2 a3 a4 b1 b2 b3 b4 b5 b6 b7 b8 b9 c1 c2 c3 many lts rat be mo ao fs ls ma)
    (h2 : ∀ S M, rdT tp t t 0 TS0 none = (t, some S) → ¬ UW th en → BB S → M < 3 → x1 = nI M → R < 16 → (D M).P + S.q ≤ 9 → (∃ a, a ≤ 4 ∧ x2 = nI a) → ∀ a1 a2 a3 a4 b1 b2 b3 b4 b5 b6 b7 b8 b9 c1 c2 c3 lts' rat' be', (∀ k, (k < 9 * M + (D M).P ∨ 9 * M + (D M).P + S.q ≤ k) → lts' k = lts k ∧ be' k = be k) → (∀ i, i < S.q → lts' (9 * M + ((D M).P + i)) = S.lt i ∧ be' (9 * M + ((D M).P + i)) = S.fo i <<< (nI (D M).P &&& 31)) →
      post (nI R) 0 0 (nI (R + 1)) a1 a2 a3 a4 b1 b2 b3 b4 b5 b6 b7 b8 b9 c1 c2 c3 (upd many M (nI ((D M).P + S.q))) lts' rat' be' (upd mo R (nI M)) (upd ao R x2) (upd fs R ((S.ch 0).1 <<< (nI (D M).P &&& 31))) (upd ls R ((S.ch 0).2.1 <<< (nI (D M).P &&& 31))) (upd ma M 0)) :
    p_M_rule (nI t) (nI R) th en cf cl ce rf rl re hp tape pf rb pl pe rlt many lts rat be mo ao fs ls ma x1 x2 post := by
  refine q_parse ht htp (fun j hj e at' rd' dp' cf' cl' ce' rf' rl' re' hp' pf' rb' pl' pe' rlt' => ⟨fun z => absurd rfl z, fun _ => h0 j hj e _ _ _ _ _ _ _ _ _ _ _ _ _ _ _ _⟩) (fun S e hq hbb at' dp' cf' cl' ce' rf' rl' re' hp' pf' rb' pl' pe' rlt' hch hfn => ⟨fun _ => ?_, fun z => absurd z (by decide)⟩)
  have c1 : cf' 0 = (S.ch 0).1 := congrArg (fun z => z.1) hch
  have c2 : cl' 0 = (S.ch 0).2.1 := congrArg (fun z => z.2.1) hch
  have no := fun hno => h1 S e hno
  refine ⟨fun z => no (Or.inr (fun q => ?_)) _ _ _ _ _ _ _ _ _ _ _ _ _ _ _ _, fun z16 => ⟨fun z => no (Or.inr (fun ⟨_, ⟨M, hM, eM, _⟩, _⟩ => ?_)) _ _ _ _ _ _ _ _ _ _ _ _ _ _ _ _, fun zm => ⟨fun z => no (Or.inr (fun ⟨_, ⟨M, hM, eM, _⟩, _⟩ => ?_)) _ _ _ _ _ _ _ _ _ _ _ _ _ _ _ _, fun zm2 => ⟨fun z => no (Or.inr (fun ⟨_, _, a, ha, ea⟩ => ?_)) _ _ _ _ _ _ _ _ _ _ _ _ _ _ _ _, fun za => ⟨fun z => no (Or.inr (fun ⟨_, _, a, ha, ea⟩ => ?_)) _ _ _ _ _ _ _ _ _ _ _ _ _ _ _ _, fun za2 => ?_⟩⟩⟩⟩⟩
  · have := (nI_eq (b := 16) (by omega) (by omega)).mp z
    have := q.1; omega
  · subst eM; exact nI_pos (by omega) z
  · subst eM; exact nI_nlt (a := 2) (by omega) (by omega) z
  · subst ea; exact nI_pos (by omega) z
  · subst ea; exact nI_nlt (a := 4) ha (by omega) z
  · have hR16 : R < 16 := by
      have : R ≠ 16 := fun q => z16 (by rw [q]; rfl)
      omega
    obtain ⟨M, hM31, rfl⟩ := nI_of zm
    have hM : M < 3 := by
      rcases Nat.lt_or_ge M 3 with y | y
      · exact y
      · exact absurd (nI_lt (a := 2) (by omega) hM31) zm2
    have ha : ∃ a, a ≤ 4 ∧ x2 = nI a := by
      obtain ⟨a, ha, rfl⟩ := nI_of za
      refine ⟨a, ?_, rfl⟩
      rcases Nat.lt_or_ge 4 a with w | w
      · exact absurd (nI_lt (a := 4) w ha) za2
      · exact w
    obtain ⟨hP9, hmany⟩ := hD M hM
    have hv3 : vp_in (nI M) 3 := vp_in_nI hM (by omega)
    have hv16 : vp_in (nI R) 16 := vp_in_nI hR16 (by omega)
    have hv6 : vp_in (0 : Int32) 6 := vp_in_nI (n := 0) (by omega) (by omega)
    have c0 : (0 : Int32).toNatClampNeg = 0 := by decide
    -- there is room, or there isn't
    have room : ¬ UW th en → vp_in (nI M) 3 ∧ ((many (nI M).toNatClampNeg + nI S.q ≤ 9 → (vp_in (nI M) 3 ∧ (∃ k, p_M_rule_97 (nI M) x2 post k (many (nI M).toNatClampNeg) 0 0 0 (nI R) at' (nI S.q) dp' (-1) cf' cl' ce' rf' rl' re' hp' pf' rb' pl' pe' rlt' many lts rat be mo ao fs ls ma))) ∧ (¬ many (nI M).toNatClampNeg + nI S.q ≤ 9 → post (-1) 0 0 (nI R) at' (nI S.q) dp' (-1) cf' cl' ce' rf' rl' re' hp' pf' rb' pl' pe' rlt' many lts rat be mo ao fs ls ma)) := fun hu => by
      rw [nI_clamp (n := M) (by omega), hmany, nI_add]
      refine ⟨hv3, fun z => ⟨hv3, ?_⟩, fun z => no (Or.inr (fun ⟨_, ⟨M', hM', eM, h9⟩, _⟩ => ?_)) _ _ _ _ _ _ _ _ _ _ _ _ _ _ _ _⟩
      · have h9 : (D M).P + S.q ≤ 9 := by
          rcases Nat.lt_or_ge 9 ((D M).P + S.q) with y | y
          · exact absurd z (nI_ge (a := 9) y (by omega))
          · exact y
        have ixp : ∀ i : Nat, (9 : Int32) * nI M + nI (D M).P + nI i = nI (9 * M + ((D M).P + i)) := fun i => by
          rw [ix9, nI_add]; congr 1; omega
        refine pk_loop (σ := (Nat → Int32) × (Nat → Int32) × (Nat → Int32)) (fun k i z => p_M_rule_97 (nI M) x2 post k (nI (D M).P) (nI i) 0 0 (nI R) at' (nI S.q) dp' (-1) cf' cl' ce' rf' rl' re' hp' pf' rb' pl' pe' rlt' many z.1 z.2.1 z.2.2 mo ao fs ls ma) (fun i z => (∀ k, (k < 9 * M + (D M).P ∨ 9 * M + (D M).P + i ≤ k) → z.1 k = lts k ∧ z.2.2 k = be k) ∧ ∀ j, j < i → z.1 (9 * M + ((D M).P + j)) = S.lt j ∧ z.2.2 (9 * M + ((D M).P + j)) = S.fo j <<< (nI (D M).P &&& 31)) S.q 0 (lts, rat, be) (Nat.zero_le _) ⟨fun k _ => ⟨rfl, rfl⟩, fun j hj => absurd hj (Nat.not_lt_zero _)⟩ ?_ ?_
        · rintro k ⟨lts', rat', be'⟩ ⟨i1, i2⟩
          refine ⟨fun _ => ?_, fun y => absurd (nI_le (Nat.le_refl _) (by omega)) y⟩
          unfold p_M_rule_178
          rw [nI_clamp (n := M) (by omega), nI_clamp (n := R) (by omega), c0, c1, c2, hmany, nI_add, nI_1, nI_pred, nar0]
          exact ⟨hv3, hv3, hv16, hv16, hv6, hv16, hv6, hv16, hv3, h2 S M e hu hbb hM rfl hR16 h9 ha _ _ _ _ _ _ _ _ _ _ _ _ _ _ _ _ lts' rat' be' i1 i2⟩
        · rintro k i ⟨lts', rat', be'⟩ hi ⟨i1, i2⟩ hk
          dsimp only at i1 i2 hk ⊢
          have hv27 : vp_in (nI (9 * M + ((D M).P + i))) 27 := vp_in_nI (by omega) (by omega)
          have hv24 : vp_in (nI i) 24 := vp_in_nI (by omega) (by omega)
          refine ⟨fun y => absurd y (nI_ge hi (by omega)), fun _ => ?_⟩
          rw [ixp, nI_clamp (n := 9 * M + ((D M).P + i)) (by omega), nI_clamp (n := i) (by omega), nI_1, (hfn i hi).1, (hfn i hi).2]
          refine ⟨hv24, hv27, hv27, hv24, hv27, hk (upd lts' (9 * M + ((D M).P + i)) (S.lt i), upd rat' (9 * M + ((D M).P + i)) (nI R), upd be' (9 * M + ((D M).P + i)) (S.fo i <<< (nI (D M).P &&& 31))) ⟨fun k hk2 => ?_, fun j hj => ?_⟩⟩
          · dsimp only
            rw [pk_un (by omega), pk_un (by omega)]
            exact i1 k (by omega)
          · dsimp only
            by_cases y : j = i
            · subst y; rw [pk_us, pk_us]; exact ⟨rfl, rfl⟩
            · rw [pk_un (by omega), pk_un (by omega)]; exact i2 j (by omega)
      · have : M' = M := (nI_eq (by omega) (by omega)).mp eM.symm
        subst this
        exact absurd (nI_le (b := 9) h9 (by omega)) z
    refine ⟨fun z => room (fun q => q.1 z), fun z => ⟨fun y => no (Or.inl ⟨z, y⟩) _ _ _ _ _ _ _ _ _ _ _ _ _ _ _ _, fun y => room (fun q => y q.2)⟩⟩