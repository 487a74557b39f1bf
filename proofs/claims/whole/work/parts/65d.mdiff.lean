/-! The reference: differ, differing -/
/-- the first word that tells, if there is one -/
def DiffR (tl : List Nat → Prop) (r : Int32) : Prop := (r = -1 ∧ ∀ w, W6 w → ¬ tl w) ∨ ∃ W, W6 W ∧ tl W ∧ (∀ w, W6 w → tl w → cd W ≤ cd w) ∧ r = nI W.length ∧ W.length < 2000
theorem DiffR.far {A B : Auto} (hA : A.Ok) (hB : B.Ok) {r r' : Int32} (h : DiffR (tellq (trn A) (wnp A) (trn B) (wnp B) (some 0) (some 0)) r) (h' : FarS (folp A B) (prtp A B) (cp (some 0) (some 0)) r') : r' = r := by
  have key : ∀ w, W6 w → (prtp A B (w.foldl (folp A B) (cp (some 0) (some 0))) ↔ tellq (trn A) (wnp A) (trn B) (wnp B) (some 0) (some 0) w) := fun w hw => prt_cp hA hB (o1 := some 0) (o2 := some 0) hA.pos hB.pos hw
  rcases h with ⟨rfl, h⟩ | ⟨W, h1, h2, h3, rfl, -⟩ <;> rcases h' with ⟨rfl, h'⟩ | ⟨n, -, rfl, ⟨w, a1, a2, a3⟩, a4⟩
  · rfl
  · exact absurd ((key w a1).mp a3) (h w a1)
  · exact absurd ((key W h1).mpr h2) (h' W h1)
  · have l1 := a4 W h1 ((key W h1).mpr h2)
    have l2 := h3 w a1 ((key w a1).mp a3)
    rcases Nat.lt_or_ge w.length W.length with z | z
    · have := cd_shorter a1 h1 z; omega
    · rw [show n = W.length by omega]
theorem W6.take {w : List Nat} (h : W6 w) (k : Nat) : W6 (w.take k) := fun c hc => h c ((List.take_sublist k w).subset hc)
theorem W6.drop {w : List Nat} (h : W6 w) (k : Nat) : W6 (w.drop k) := fun c hc => h c ((List.drop_sublist k w).subset hc)
theorem W6.app {u v : List Nat} (h : W6 u) (h' : W6 v) : W6 (u ++ v) := fun c hc => (List.mem_append.mp hc).elim (h c) (h' c)
theorem q_M_differ {D : Nat → Md} {G : Nat → Nat → Nat} {n : Nat → Nat} {s : Nat → Nat → Nat} {R : Nat} {many lt be mo fs ls : Nat → Int32} (T : RT D G n s R many lt be mo fs ls) {ma no se st gr sa fr gs : Nat → Int32} (K : RK D G n s ma no se st gr sa gs) {x1 x2 : Int32} {sn fo ah : Nat → Int32} {post : _}
    (h1 : ∀ a b, a < 3 → b < 3 → x1 = nI a → x2 = nI b → ∃ r, DiffR (tellq (trn (D a).au) (wnp (D a).au) (trn (D b).au) (wnp (D b).au) (some 0) (some 0)) r ∧ ∀ ma' no' se' st' gr' sa' fr' gs' sn' fo' ah', RK D G n s ma' no' se' st' gr' sa' gs' → RS (D a) a no' se' st' → RS (D b) b no' se' st' → post r 0 ma' no' se' st' gr' sa' fr' gs' sn' fo' ah')
    (h0 : ((∀ M, M < 3 → x1 ≠ nI M) ∨ (∀ M, M < 3 → x2 ≠ nI M)) → post (-1) 0 ma no se st gr sa fr gs sn fo ah) :
    p_M_differ (nI R) ma no mo fs many se be lt st ls gr sa fr gs sn fo ah x1 x2 post := by
  refine q_M_isMode (fun a ha ea => ⟨fun z => absurd z (by decide), fun _ => ?_⟩) (fun hn => ⟨fun _ => h0 (Or.inl hn), fun z => absurd rfl z⟩)
  refine q_M_isMode (fun b hb eb => ⟨fun _ => ?_, fun z => absurd z (by decide)⟩) (fun hn => ⟨fun z => absurd rfl z, fun _ => h0 (Or.inr hn)⟩)
  obtain ⟨r, hd, hp⟩ := h1 a b ha hb ea eb
  subst ea
  subst eb
  refine q_M_makeA T K ha (fun ma1 no1 se1 st1 gr1 sa1 fr1 gs1 K1 _ _ m1 => q_M_makeA T K1 hb (fun ma2 no2 se2 st2 gr2 sa2 fr2 gs2 K2 R2 mono _ => ?_))
  have Ra := K2 a ha (mono a m1)
  have e0 : (0 : Int32) = nI (cp (some 0) (some 0)) := by decide
  rw [e0]
  refine q_M_farN (T.dok a ha) (T.dok b hb) (T.rd a ha) (T.rd b hb) Ra.rs R2.rs (o1 := some 0) (o2 := some 0) (au_ok (T.dok a ha)).pos (au_ok (T.dok b hb)).pos (fun r' hr' sn' fo' ah' => ?_)
  rw [hd.far (au_ok (T.dok a ha)) (au_ok (T.dok b hb)) hr']
  exact hp _ _ _ _ _ _ _ _ _ _ _ K2 Ra.rs R2.rs
theorem q_diff42 {D : Nat → Md} {G : Nat → Nat → Nat} {n : Nat → Nat} {s : Nat → Nat → Nat} {R : Nat} {many lt be mo fs ls : Nat → Int32} (T : RT D G n s R many lt be mo fs ls) {a b : Nat} (ha : a < 3) (hb : b < 3) {no se st : Nat → Int32} (Sa : RS (D a) a no se st) (Sb : RS (D b) b no se st) {W : List Nat} (w1 : W6 W) (w2 : tellq (trn (D a).au) (wnp (D a).au) (trn (D b).au) (wnp (D b).au) (some 0) (some 0) W) (w3 : ∀ w, W6 w → tellq (trn (D a).au) (wnp (D a).au) (trn (D b).au) (wnp (D b).au) (some 0) (some 0) w → cd W ≤ cd w) (w5 : W.length < 2000) {i k : Nat} (hiW : i < W.length) (hkW : k < W.length) {co : Int32} {ma gr sa fr gs : Nat → Int32} {post K32 : _}
    (hpost : k = i → ∀ sn fo ah, post (nI (W.getD k 0)) co ma no se st gr sa fr gs sn fo ah)
    (hK : k ≠ i → ∀ sn fo ah, K32 (nI W.length) (nI (cp (mrun (trn (D a).au) (some 0) (W.take (k + 1))) (mrun (trn (D b).au) (some 0) (W.take (k + 1))))) (nI (k + 1)) co ma no se st gr sa fr gs sn fo ah) :
    ∀ (e c : Nat) (sn fo ah : Nat → Int32), c + e = W.getD k 0 → p_M_differing_42 (nI R) mo ls (nI a) (nI b) (nI i) post K32 (e + 1) (nI W.length) (nI (cp (mrun (trn (D a).au) (some 0) (W.take k)) (mrun (trn (D b).au) (some 0) (W.take k)))) (nI k) (nI c) co ma no se st gr sa fr gs sn fo ah := by
  have hA := au_ok (T.dok a ha)
  have hB := au_ok (T.dok b hb)
  have oa := trn_oinr hA (W.take k) (some 0) hA.pos (w1.take k)
  have ob := trn_oinr hB (W.take k) (some 0) hB.pos (w1.take k)
  have hWk : W.getD k 0 < 6 := by
    rw [List.getD_eq_getElem?_getD, List.getElem?_eq_getElem hkW]
    exact w1 _ (List.getElem_mem hkW)
  have htake : W.take (k + 1) = W.take k ++ [W.getD k 0] := by
    rw [List.getD_eq_getElem?_getD, List.getElem?_eq_getElem hkW, List.take_succ_eq_append_getElem hkW]; rfl
  have hsplit : W = W.take k ++ [W.getD k 0] ++ W.drop (k + 1) := by
    rw [← htake, List.take_append_drop]
  have htl : ∀ c v, tellq (trn (D a).au) (wnp (D a).au) (trn (D b).au) (wnp (D b).au) (mst (trn (D a).au) (mrun (trn (D a).au) (some 0) (W.take k)) c) (mst (trn (D b).au) (mrun (trn (D b).au) (some 0) (W.take k)) c) v ↔ tellq (trn (D a).au) (wnp (D a).au) (trn (D b).au) (wnp (D b).au) (some 0) (some 0) (W.take k ++ [c] ++ v) := fun c v => by
    unfold tellq
    rw [mrun_app (u := W.take k ++ [c]), mrun_app (u := W.take k ++ [c]), mrun_snoc, mrun_snoc]
  have hlk : (W.take k).length = k := by rw [List.length_take]; omega
  have eq1 : nI W.length - nI k - 1 = nI (W.length - k - 1) := by
    rw [pk_sub (by omega), show W.length - k = W.length - k - 1 + 1 by omega, nI_pred]; simp
  -- how far a difference lies behind the next letter
  have hfar : ∀ c, c < 6 → ∀ r', FarS (folp (D a).au (D b).au) (prtp (D a).au (D b).au) (cp (mst (trn (D a).au) (mrun (trn (D a).au) (some 0) (W.take k)) c) (mst (trn (D b).au) (mrun (trn (D b).au) (some 0) (W.take k)) c)) r' → (c = W.getD k 0 → r' = nI (W.length - k - 1)) ∧ (c < W.getD k 0 → r' ≠ nI (W.length - k - 1)) := fun c hc r' hr' => by
    have oa2 := trn_oin hA oa hc
    have ob2 := trn_oin hB ob hc
    have hdw : W6 (W.drop (k + 1)) := w1.drop _
    have hdl : (W.drop (k + 1)).length = W.length - k - 1 := by rw [List.length_drop]; omega
    have hlen : ∀ w : List Nat, (W.take k ++ [c] ++ w).length = k + 1 + w.length := fun w => by rw [List.length_append, List.length_append, hlk]; rfl
    constructor
    · intro hc'
      have htd := (prt_cp hA hB oa2 ob2 hdw).mpr ((htl c _).mpr (by rw [hc', ← hsplit]; exact w2))
      rcases hr' with ⟨-, h⟩ | ⟨m, -, rfl, ⟨w, a1, a2, a3⟩, a4⟩
      · exact absurd htd (h _ hdw)
      · have l1 := a4 _ hdw htd
        have ht2 := (htl c w).mp ((prt_cp hA hB oa2 ob2 a1).mp a3)
        have hw6 : W6 (W.take k ++ [c] ++ w) := ((w1.take k).snoc hc).app a1
        have l2 := w3 _ hw6 ht2
        have hl := hlen w
        rcases Nat.lt_or_ge (k + 1 + w.length) W.length with y | y
        · have := cd_shorter hw6 w1 (by omega); omega
        · rw [show m = W.length - k - 1 by omega]
    · intro hc' e
      rcases hr' with ⟨rfl, h⟩ | ⟨m, hm, rfl, ⟨w, a1, a2, a3⟩, a4⟩
      · exact nI_nm1 (by omega) e.symm
      · have em := (nI_eq (by omega) (by omega)).mp e
        have ht2 := (htl c w).mp ((prt_cp hA hB oa2 ob2 a1).mp a3)
        have hw6 : W6 (W.take k ++ [c] ++ w) := ((w1.take k).snoc hc).app a1
        have l2 := w3 _ hw6 ht2
        have hcd : cd (W.take k ++ [c] ++ w) < cd W := by
          have : cd (W.take k ++ [c] ++ w) < cd (W.take k ++ [W.getD k 0] ++ W.drop (k + 1)) := by
            rw [cd_app (W.take k ++ [c]) w, cd_app (W.take k ++ [W.getD k 0])]
            exact ext_lt _ _ _ _ (by rw [cd_snoc, cd_snoc]; omega) (by omega) a1
          rw [← hsplit] at this
          exact this
        omega
  intro e
  induction e with
  | zero =>
    intro c sn fo ah hc
    have hc' : c = W.getD k 0 := by omega
    have hc6 : c < 6 := by omega
    unfold p_M_differing_42
    refine q_M_follow (T.dok a ha) (T.dok b hb) (T.rd a ha) (T.rd b hb) Sa Sb oa ob hc6 ?_
    refine q_M_farN (T.dok a ha) (T.dok b hb) (T.rd a ha) (T.rd b hb) Sa Sb (trn_oin hA oa hc6) (trn_oin hB ob hc6) (fun r' hr' sn2 fo2 ah2 => ?_)
    have hr2 := (hfar c (by omega) r' hr').1 hc'
    refine ⟨fun _ => ⟨fun y => ?_, fun y => ?_⟩, fun y => absurd (by rw [hr2, eq1]) y⟩
    · refine q_M_follow (T.dok a ha) (T.dok b hb) (T.rd a ha) (T.rd b hb) Sa Sb oa ob (by omega) ?_
      rw [nI_1]
      have := hK (fun q => y (by rw [q])) sn2 fo2 ah2
      rw [htake, mrun_snoc, mrun_snoc, ← hc'] at this
      exact this
    · have hki := (nI_eq (by omega) (by omega)).mp y
      rw [hc']
      exact hpost hki _ _ _
  | succ e ih =>
    intro c sn fo ah hc
    have hc6 : c < 6 := by omega
    unfold p_M_differing_42
    refine q_M_follow (T.dok a ha) (T.dok b hb) (T.rd a ha) (T.rd b hb) Sa Sb oa ob hc6 ?_
    refine q_M_farN (T.dok a ha) (T.dok b hb) (T.rd a ha) (T.rd b hb) Sa Sb (trn_oin hA oa hc6) (trn_oin hB ob hc6) (fun r' hr' sn2 fo2 ah2 => ?_)
    have hr2 := (hfar c (by omega) r' hr').2 (by omega)
    rw [eq1]
    refine ⟨fun y => absurd y hr2, fun _ => ?_⟩
    rw [nI_1]
    exact ih (c + 1) sn2 fo2 ah2 (by omega)
theorem q_M_differing {D : Nat → Md} {G : Nat → Nat → Nat} {n : Nat → Nat} {s : Nat → Nat → Nat} {R : Nat} {many lt be mo fs ls : Nat → Int32} (T : RT D G n s R many lt be mo fs ls) {ma no se st gr sa fr gs : Nat → Int32} (K : RK D G n s ma no se st gr sa gs) {x1 x2 x3 : Int32} {sn fo ah : Nat → Int32} {post : _}
    (h1 : ∀ a b, a < 3 → b < 3 → x1 = nI a → x2 = nI b → ∃ r, DiffR (tellq (trn (D a).au) (wnp (D a).au) (trn (D b).au) (wnp (D b).au) (some 0) (some 0)) r ∧ ∀ ma' no' se' st' gr' sa' fr' gs' sn' fo' ah', RK D G n s ma' no' se' st' gr' sa' gs' →
      ((∀ w, W6 w → ¬ tellq (trn (D a).au) (wnp (D a).au) (trn (D b).au) (wnp (D b).au) (some 0) (some 0) w) → post (-1) 0 ma' no' se' st' gr' sa' fr' gs' sn' fo' ah') ∧
      ∀ W, W6 W → tellq (trn (D a).au) (wnp (D a).au) (trn (D b).au) (wnp (D b).au) (some 0) (some 0) W → (∀ w, W6 w → tellq (trn (D a).au) (wnp (D a).au) (trn (D b).au) (wnp (D b).au) (some 0) (some 0) w → cd W ≤ cd w) → ((x3 < 0 ∨ nI W.length ≤ x3) → post (-1) 0 ma' no' se' st' gr' sa' fr' gs' sn' fo' ah') ∧ ∀ i, i < W.length → x3 = nI i → post (nI (W.getD i 0)) 0 ma' no' se' st' gr' sa' fr' gs' sn' fo' ah')
    (h0 : ((∀ M, M < 3 → x1 ≠ nI M) ∨ (∀ M, M < 3 → x2 ≠ nI M)) → post (-1) 0 ma no se st gr sa fr gs sn fo ah) :
    p_M_differing (nI R) ma no mo fs many se be lt st ls gr sa fr gs sn fo ah x1 x2 x3 post := by
  refine q_M_differ T K (fun a b ha hb ea eb => ?_) (fun hn => ⟨fun _ => h0 hn, fun z => absurd rfl z⟩)
  obtain ⟨r, hd, hp⟩ := h1 a b ha hb ea eb
  refine ⟨r, hd, fun ma' no' se' st' gr' sa' fr' gs' sn' fo' ah' K' Sa Sb => ?_⟩
  have hA := au_ok (T.dok a ha)
  have hB := au_ok (T.dok b hb)
  subst ea
  subst eb
  rcases hd with ⟨rfl, hno⟩ | ⟨W, w1, w2, w3, rfl, w5⟩
  · exact ⟨fun _ => (hp _ _ _ _ _ _ _ _ _ _ _ K').1 hno, fun z => absurd rfl z⟩
  · refine ⟨fun z => absurd z (nI_nm1 (by omega)), fun _ => ⟨fun z => ((hp _ _ _ _ _ _ _ _ _ _ _ K').2 W w1 w2 w3).1 (Or.inl z), fun z3 => ⟨fun z => ?_, fun z => ((hp _ _ _ _ _ _ _ _ _ _ _ K').2 W w1 w2 w3).1 (Or.inr ?_)⟩⟩⟩
    · obtain ⟨i, hi, rfl⟩ := nI_of z3
      have hiW := (nI_ltI hi (by omega)).mp z
      have key : ∀ (d k : Nat) (sn fo ah : Nat → Int32), k + d = i → p_M_differing_32 (nI R) mo ls (nI a) (nI b) (nI i) post (d + 1) (nI W.length) (nI (cp (mrun (trn (D a).au) (some 0) (W.take k)) (mrun (trn (D b).au) (some 0) (W.take k)))) (nI k) 0 ma' no' se' st' gr' sa' fr' gs' sn fo ah := by
        intro d
        induction d with
        | zero =>
          intro k sn fo ah hk
          refine ⟨fun y => absurd y (nI_ge (by omega) (by omega)), fun _ => ⟨_, q_diff42 T ha hb Sa Sb w1 w2 w3 w5 hiW (by omega) (fun e sn fo ah => ?_) (fun e => absurd hk (by omega)) (W.getD k 0) 0 sn fo ah (by omega)⟩⟩
          rw [e]
          exact ((hp _ _ _ _ _ _ _ _ _ _ _ K').2 W w1 w2 w3).2 i hiW rfl
        | succ d ih =>
          intro k sn fo ah hk
          exact ⟨fun y => absurd y (nI_ge (by omega) (by omega)), fun _ => ⟨_, q_diff42 T ha hb Sa Sb w1 w2 w3 w5 hiW (by omega) (fun e => absurd hk (by omega)) (fun e sn fo ah => ih (k + 1) sn fo ah (by omega)) (W.getD k 0) 0 sn fo ah (by omega)⟩⟩
      exact ⟨_, key i 0 _ _ _ (by omega)⟩
    · obtain ⟨i, hi, rfl⟩ := nI_of z3
      rcases Nat.lt_or_ge i W.length with y | y
      · exact absurd (nI_lt y (by omega)) z
      · exact nI_le y hi