/-! The reference: make -/
/-- nothing outside of block M (of width w) has changed -/
def Blk (w M : Nat) (f f' : Nat → Int32) : Prop := ∀ i, i < w * M ∨ w * M + w ≤ i → f' i = f i
theorem Blk.refl {w M : Nat} {f : Nat → Int32} : Blk w M f f := fun _ _ => rfl
theorem Blk.upd {w M k : Nat} {f f' : Nat → Int32} {x : Int32} (h : Blk w M f f') (hk : k < w) : Blk w M f (upd f' (w * M + k) x) := fun i hi => by
  rw [pk_un (by omega)]; exact h i hi
theorem Blk.trans {w M : Nat} {f f' f'' : Nat → Int32} (h : Blk w M f f') (h' : Blk w M f' f'') : Blk w M f f'' := fun i hi => (h' i hi).trans (h i hi)
/-- a node in a row: -1 for none -/
def tI (L : List Int32) (x : Int32) : Int32 := if x = 0 then -1 else nI (L.idxOf x)
/-- the reference's nodes of mode M while they are found: L so far, slots below m done -/
def RN (D : Md) (M m : Nat) (L : List Int32) (no se st : Nat → Int32) : Prop :=
  (no M = nI L.length) ∧
  (∀ k, 0 < k → k < L.length → se (514 * M + k) = nd L k) ∧
  (∀ t, t < m → st (3084 * M + t) = tI L (slot D L t))
theorem RN.no {D : Md} {M m : Nat} {L : List Int32} {no se st : Nat → Int32} (h_ : RN D M m L no se st) : no M = nI L.length := h_.1
theorem RN.se {D : Md} {M m : Nat} {L : List Int32} {no se st : Nat → Int32} (h_ : RN D M m L no se st) : ∀ k, 0 < k → k < L.length → se (514 * M + k) = nd L k := h_.2.1
theorem RN.st {D : Md} {M m : Nat} {L : List Int32} {no se st : Nat → Int32} (h_ : RN D M m L no se st) : ∀ t, t < m → st (3084 * M + t) = tI L (slot D L t) := h_.2.2

theorem idx_app {L : List Int32} {s x : Int32} (h : x ∈ L) : (L ++ [s]).idxOf x = L.idxOf x := by
  rw [List.idxOf_append, if_pos h]
theorem idx_len {L : List Int32} {s : Int32} (h : s ∉ L) : (L ++ [s]).idxOf s = L.length := by
  rw [List.idxOf_append, if_neg h]; simp
theorem tI_add {L : List Int32} {s x : Int32} (h : x ∈ L) : tI (addN L s) x = tI L x := by
  unfold tI addN
  split
  · rfl
  · split
    · rfl
    · rw [idx_app h]
theorem q_M_find {M : Nat} (hM : M < 3) {L : List Int32} (hL : OKL L) {no se : Nat → Int32} (hno : no M = nI L.length) (hse : ∀ k, 0 < k → k < L.length → se (514 * M + k) = nd L k) {s : Int32} (h0 : s ≠ 0) (h9 : S9 s) {post : Int32 → (Nat → Int32) → (Nat → Int32) → Prop}
    (h1 : s ∈ L → post (nI (L.idxOf s)) no se) (h2 : s ∉ L → post (nI L.length) (upd no M (nI (L.length + 1))) (upd se (514 * M + L.length) s)) : p_M_find no se (nI M) s post := by
  have hle := hL.le
  have hpos := hL.pos
  have key : ∀ (d i : Nat), i + d = L.length → 0 < i → (∀ k, 0 < k → k < i → nd L k ≠ s) → ∃ n, p_M_find_2 (nI M) s post n (nI i) no se := by
    intro d
    induction d with
    | zero =>
      intro i hi hi0 hn
      refine ⟨1, vp_in_nI hM (by omega), ?_⟩
      rw [nI_clamp (by omega), hno]
      refine ⟨fun _ => ?_, fun z => absurd (nI_le (by omega) (by omega)) z⟩
      have hs : s ∉ L := fun m => by
        obtain ⟨j, hj, e⟩ := mem_nd m
        rcases Nat.eq_zero_or_pos j with z | z
        · rw [z, hL.z] at e; exact h0 e.symm
        · exact hn j z (by omega) e
      have hle2 := (hL.app hs h9).le
      rw [List.length_append] at hle2
      simp at hle2
      have hm := vp_in_nI hM (by omega : 3 < 2 ^ 31)
      unfold p_M_find_36
      rw [nI_clamp (by omega), hno, ix514, nI_clamp (n := 514 * M + L.length) (by omega), nI_1]
      refine ⟨hm, vp_in_nI (by omega) (by omega), hm, hm, hm, ?_⟩
      rw [pk_us, nI_pred]
      exact h2 hs
    | succ d ih =>
      intro i hi hi0 hn
      by_cases e : nd L i = s
      · refine ⟨1, vp_in_nI hM (by omega), ?_⟩
        rw [nI_clamp (by omega), hno, ix514, nI_clamp (n := 514 * M + i) (by omega), hse i hi0 (by omega)]
        refine ⟨fun z => absurd z (nI_ge (by omega) (by omega)), fun _ => ⟨vp_in_nI (by omega) (by omega), fun z => absurd e z, fun _ => ?_⟩⟩
        have hm : s ∈ L := e ▸ nd_mem (by omega)
        have : L.idxOf s = i := hL.inj (idx_nd hm).1 (by omega) (by rw [(idx_nd hm).2, e])
        rw [← this]
        exact h1 hm
      · obtain ⟨n, hn2⟩ := ih (i + 1) (by omega) (by omega) (fun k hk0 hk => by
          by_cases q : k = i
          · rw [q]; exact e
          · exact hn k hk0 (by omega))
        refine ⟨n + 1, vp_in_nI hM (by omega), ?_⟩
        rw [nI_clamp (by omega), hno, ix514, nI_clamp (n := 514 * M + i) (by omega), hse i hi0 (by omega), nI_1]
        exact ⟨fun z => absurd z (nI_ge (by omega) (by omega)), fun _ => ⟨vp_in_nI (by omega) (by omega), fun _ => hn2, fun z => absurd z e⟩⟩
  exact key (L.length - 1) 1 (by omega) (by omega) (fun k h1 h2 => by omega)
theorem ixs (M k c : Nat) : (6 : Int32) * (514 * nI M + nI k) + nI c = nI (3084 * M + (6 * k + c)) := by
  rw [ix514, ix6]
  congr 1
  omega
theorem q_M_make46 {D : Md} (hD : DOk D) {M R : Nat} {many lt behind mo fs ls : Nat → Int32} (H : RefMd D M R many lt behind mo fs ls) {L : List Int32} {i : Nat} (hB : BI D (6 * i) L) (hi : i < L.length) {post K : _} {ma no se st gr sa fr gs : Nat → Int32} (h : RN D M (6 * i) L no se st)
    (hK : ∀ no' se' st', Blk 1 M no no' → Blk 514 M se se' → Blk 3084 M st st' → RN D M (6 * (i + 1)) (rowN D (nd L i) L 6) no' se' st' → K (nI (i + 1)) ma no' se' st' gr sa fr gs) :
    ∃ k, p_M_make_46 many lt (nI M) post K k (nI i) (D.bhd (nd L i)) 0 ma no se st gr sa fr gs := by
  have hle := hB.ok.le
  have hM := H.hM
  refine pk_loop (σ := (Nat → Int32) × (Nat → Int32) × (Nat → Int32)) (fun n c s => p_M_make_46 many lt (nI M) post K n (nI i) (D.bhd (nd L i)) (nI c) ma s.1 s.2.1 s.2.2 gr sa fr gs) (fun c s => (Blk 1 M no s.1 ∧ Blk 514 M se s.2.1 ∧ Blk 3084 M st s.2.2) ∧ RN D M (6 * i + c) (rowN D (nd L i) L c) s.1 s.2.1 s.2.2) 6 0 (no, se, st) (Nat.zero_le _) ⟨⟨Blk.refl, Blk.refl, Blk.refl⟩, h⟩ ?_ ?_
  · rintro n ⟨no', se', st'⟩ ⟨hb, hI⟩
    refine ⟨fun _ => ?_, fun z => absurd (by decide) z⟩
    show K (nI i + 1) _ _ _ _ _ _ _ _
    rw [nI_1]
    exact hK _ _ _ hb.1 hb.2.1 hb.2.2 hI
  · rintro n c ⟨no', se', st'⟩ hc ⟨hb, hI⟩ hk
    dsimp only at hb hI hk ⊢
    have hR := hB.row hD.hP hi c (by omega)
    have hlr := @row_len D (nd L i) L c
    have hle2 := hR.ok.le
    have h9 : S9 (D.nx (nd L i) c) := Md.nx_S9 hD.hP _ _
    have hslot : slot D (rowN D (nd L i) L c) (6 * i + c) = D.nx (nd L i) c := by
      unfold slot
      rw [show (6 * i + c) / 6 = i by omega, show (6 * i + c) % 6 = c by omega, row_nd hi]
    have hsl2 : ∀ t, t < 6 * i + c + 1 → slot D (rowN D (nd L i) L (c + 1)) t = slot D (rowN D (nd L i) L c) t := fun t ht => by
      unfold slot
      show D.nx (nd (addN _ _) _) _ = _
      rw [add_nd (by omega)]
    -- the row of steps grows by a slot
    have hst : ∀ x, x = tI (rowN D (nd L i) L (c + 1)) (D.nx (nd L i) c) → ∀ t, t < 6 * i + (c + 1) → upd st' (3084 * M + (6 * i + c)) x (3084 * M + t) = tI (rowN D (nd L i) L (c + 1)) (slot D (rowN D (nd L i) L (c + 1)) t) := fun x hx t ht => by
      rw [hsl2 t ht]
      by_cases e : t = 6 * i + c
      · subst e; rw [pk_us, hx, hslot]
      · rw [pk_un (by omega), hI.st t (by omega)]
        exact (tI_add (hR.cl t (by omega))).symm
    refine ⟨fun z => absurd z (nI_ge (b := 6) hc (by omega)), fun _ => ?_⟩
    rw [ixs, nI_clamp (by omega), nI_1]
    have hin : vp_in (nI (3084 * M + (6 * i + c))) 9252 := vp_in_nI (by omega) (by omega)
    refine q_M_reach H hc ⟨fun z => ?_, fun z => ?_⟩
    · have z' : ¬ D.nx (nd L i) c = 0 := z
      refine q_M_find hM hR.ok hI.no hI.se z h9 (fun m => ⟨hin, ?_⟩) (fun m => ⟨hin, ?_⟩)
      · have ea : rowN D (nd L i) L (c + 1) = rowN D (nd L i) L c := by
          show addN _ _ = _
          unfold addN; exact if_pos m
        refine hk (_, _, _) ⟨⟨hb.1, hb.2.1, hb.2.2.upd (by omega)⟩, ⟨by rw [ea]; exact hI.no, by rw [ea]; exact hI.se, hst _ ?_⟩⟩
        unfold tI
        rw [if_neg z', ea]; rfl
      · have ea : rowN D (nd L i) L (c + 1) = rowN D (nd L i) L c ++ [D.nx (nd L i) c] := by
          show addN _ _ = _
          unfold addN; exact if_neg m
        have hle3 := (hR.ok.app m h9).le
        rw [List.length_append] at hle3
        simp at hle3
        refine hk (_, _, _) ⟨⟨?_, hb.2.1.upd (by omega), hb.2.2.upd (by omega)⟩, ⟨?_, fun k hk0 hk => ?_, hst _ ?_⟩⟩
        · have := hb.1.upd (k := 0) (x := nI ((rowN D (nd L i) L c).length + 1)) (by omega)
          rw [show 1 * M + 0 = M by omega] at this
          exact this
        · show upd no' M _ M = _
          rw [pk_us, ea, List.length_append]; rfl
        · show upd se' _ _ _ = _
          rw [ea, List.length_append] at hk
          simp at hk
          rw [ea]
          by_cases e : k = (rowN D (nd L i) L c).length
          · subst e; rw [pk_us, nd_last]; rfl
          · rw [pk_un (by omega), nd_app (by omega)]
            exact hI.se k hk0 (by omega)
        · unfold tI
          rw [if_neg z', ea]
          show nI _ = nI ((rowN D (nd L i) L c ++ [D.nx (nd L i) c]).idxOf (D.nx (nd L i) c))
          have m' : D.nx (nd L i) c ∉ rowN D (nd L i) L c := m
          rw [idx_len m']
    · refine ⟨hin, ?_⟩
      have m : D.nx (nd L i) c ∈ rowN D (nd L i) L c := by
        have : D.nx (nd L i) c = 0 := z
        rw [this]; exact hR.ok.mem0
      have ea : rowN D (nd L i) L (c + 1) = rowN D (nd L i) L c := by
        show addN _ _ = _
        unfold addN; exact if_pos m
      refine hk (_, _, _) ⟨⟨hb.1, hb.2.1, hb.2.2.upd (by omega)⟩, ⟨by rw [ea]; exact hI.no, by rw [ea]; exact hI.se, hst _ ?_⟩⟩
      unfold tI
      have : D.nx (nd L i) c = 0 := z
      rw [if_pos this]
theorem q_M_make26 {D : Md} (hD : DOk D) {M R : Nat} {many lt behind mo fs ls : Nat → Int32} (H : RefMd D M R many lt behind mo fs ls) {post : _} {ma gr sa fr gs : Nat → Int32} : ∀ (n i : Nat) (L : List Int32) (no se st : Nat → Int32), 513 ≤ n + i → BI D (6 * i) L → RN D M (6 * i) L no se st →
    (∀ no' se' st', Blk 1 M no no' → Blk 514 M se se' → Blk 3084 M st st' → RN D M (6 * (bfs D n i L).length) (bfs D n i L) no' se' st' → p_M_make_109 (nI R) mo ls (nI M) post ma no' se' st' gr sa fr gs) → p_M_make_26 (nI R) mo fs many behind lt ls (nI M) post (n + 1) (nI i) ma no se st gr sa fr gs := by
  have hM := H.hM
  intro n
  induction n with
  | zero =>
    intro i L no se st hn hB
    have := hB.ok.le
    have := hB.lt
    omega
  | succ n ih =>
    intro i L no se st hn hB hN hp
    have hle := hB.ok.le
    have hlt := hB.lt
    unfold bfs at hp
    refine ⟨vp_in_nI hM (by omega), ?_⟩
    rw [nI_clamp (by omega), hN.no]
    by_cases hi : i < L.length
    · rw [if_pos hi] at hp
      refine ⟨fun z => absurd z (nI_ge hi (by omega)), fun _ => ?_⟩
      have hgo : ∃ k, p_M_make_46 many lt (nI M) post (p_M_make_26 (nI R) mo fs many behind lt ls (nI M) post (n + 1)) k (nI i) (D.bhd (nd L i)) 0 ma no se st gr sa fr gs :=
        q_M_make46 hD H hB hi hN (fun no' se' st' b1 b2 b3 hN' => ih (i + 1) _ no' se' st' (by omega) (hB.row hD.hP hi 6 (Nat.le_refl _)) hN' (fun no'' se'' st'' c1 c2 c3 hN'' => hp no'' se'' st'' (b1.trans c1) (b2.trans c2) (b3.trans c3) hN''))
      rcases Nat.eq_zero_or_pos i with z | z
      · subst z
        refine q_M_may0 H ?_
        rw [hB.ok.z] at hgo
        exact hgo
      · have hne : nd L i ≠ 0 := fun e => by
          have := hB.ok.inj hi hB.ok.pos (e.trans hB.ok.z.symm)
          omega
        exact q_M_may H z (by omega) (hN.se i z hi) hne hgo
    · rw [if_neg hi] at hp
      refine ⟨fun _ => hp no se st Blk.refl Blk.refl Blk.refl ?_, fun z => absurd (nI_le (by omega) (by omega)) z⟩
      rw [show L.length = i by omega]
      exact hN
/-- a node in a row -/
def gT (t : Nat) : Int32 := if t = 0 then -1 else nI t
/-- the reference's nodes of mode M, all found -/
def RS (D : Md) (M : Nat) (no se st : Nat → Int32) : Prop :=
  (no M = nI D.au.N) ∧
  (∀ k, 0 < k → k < D.au.N → se (514 * M + k) = nd D.sets k) ∧
  (∀ k c, k < D.au.N → c < 6 → st (3084 * M + (6 * k + c)) = gT (D.au.to k c))
theorem RS.no {D : Md} {M : Nat} {no se st : Nat → Int32} (h_ : RS D M no se st) : no M = nI D.au.N := h_.1
theorem RS.se {D : Md} {M : Nat} {no se st : Nat → Int32} (h_ : RS D M no se st) : ∀ k, 0 < k → k < D.au.N → se (514 * M + k) = nd D.sets k := h_.2.1
theorem RS.st {D : Md} {M : Nat} {no se st : Nat → Int32} (h_ : RS D M no se st) : ∀ k c, k < D.au.N → c < 6 → st (3084 * M + (6 * k + c)) = gT (D.au.to k c) := h_.2.2

theorem RS.of {D : Md} (hD : DOk D) {M : Nat} {no se st : Nat → Int32} (h : RN D M (6 * D.sets.length) D.sets no se st) : RS D M no se st := by
  refine ⟨h.no, h.se, fun k c hk hc => ?_⟩
  rw [h.st (6 * k + c) (by have : k < D.sets.length := hk; omega)]
  unfold slot tI gT
  rw [show (6 * k + c) / 6 = k by omega, show (6 * k + c) % 6 = c by omega]
  have h0 := au_0 hD hk hc
  by_cases e : D.nx (nd D.sets k) c = 0
  · rw [if_pos e, if_pos (h0.mpr e)]
  · rw [if_neg e, if_neg (fun y => e (h0.mp y))]; rfl
theorem q_M_go {D : Md} (hA : D.au.Ok) {M : Nat} (hM : M < 3) {no se st : Nat → Int32} (h : RS D M no se st) {k c : Nat} (hk : k < D.au.N) (hc : c < 6) {post : Int32 → Prop} (hp : post (gT (D.au.to k c))) : p_M_go st (nI M) (nI k) (nI c) post := by
  have hle := hA.le
  unfold p_M_go
  rw [ixs, nI_clamp (by omega), h.st k c hk hc]
  exact ⟨vp_in_nI (by omega) (by omega), hp⟩
/-- labels in the reference's row: gm k, equal where g is -/
def GG (A : Auto) (M : Nat) (gr : Nat → Int32) (gm : Nat → Int32) (g : Nat → Nat) : Prop :=
  (∀ k, k < A.N → gr (514 * M + k) = gm k) ∧
  (∀ i j, i < A.N → j < A.N → (gm i = gm j ↔ g i = g j))
theorem GG.gr {A : Auto} {M : Nat} {gr : Nat → Int32} {gm : Nat → Int32} {g : Nat → Nat} (h_ : GG A M gr gm g) : ∀ k, k < A.N → gr (514 * M + k) = gm k := h_.1
theorem GG.eq {A : Auto} {M : Nat} {gr : Nat → Int32} {gm : Nat → Int32} {g : Nat → Nat} (h_ : GG A M gr gm g) : ∀ i j, i < A.N → j < A.N → (gm i = gm j ↔ g i = g j) := h_.2

theorem q_M_groupAt {A : Auto} (hA : A.Ok) {M : Nat} (hM : M < 3) {gr gm : Nat → Int32} {g : Nat → Nat} (h : GG A M gr gm g) {k : Nat} (hk : k < A.N) {post : Int32 → Prop} (hp : post (gm k)) : p_M_groupAt gr (nI M) (nI k) post := by
  have hle := hA.le
  refine ⟨fun _ => ?_, fun z => absurd z (nI_nm1 (by omega))⟩
  rw [ix514, nI_clamp (by omega), h.gr k hk]
  exact ⟨vp_in_nI (by omega) (by omega), hp⟩
theorem gT_0 {t : Nat} (h : t = 0) : gT t = -1 := if_pos h
theorem gT_n {t : Nat} (h : t ≠ 0) : gT t = nI t := if_neg h
theorem q_M_alike25 {D : Md} (hA : D.au.Ok) {M : Nat} (hM : M < 3) {no se st gr gm : Nat → Int32} {g : Nat → Nat} (hS : RS D M no se st) (hG : GG D.au M gr gm g) (hg : ∀ k, k < D.au.N → g k < 2 ^ 31) {i j : Nat} (hi : i < D.au.N) (hj : j < D.au.N) {post : Int32 → Prop} {b : Prop}
    (h1 : b → (∀ c, c < 6 → gA g (D.au.to i c) = gA g (D.au.to j c)) → post 1) (h0 : (¬ (b ∧ ∀ c, c < 6 → gA g (D.au.to i c) = gA g (D.au.to j c))) → post 0) : ∀ (d c : Nat), c + d = 6 → ∀ x : Int32, ((x = 1 ∧ b ∧ ∀ c', c' < c → gA g (D.au.to i c') = gA g (D.au.to j c')) ∨ (x = 0 ∧ ¬ (b ∧ ∀ c', c' < c → gA g (D.au.to i c') = gA g (D.au.to j c')))) → ∃ n, p_M_alike_25 gr st (nI M) (nI i) (nI j) post n x (nI c) := by
  have hle := hA.le
  intro d
  induction d with
  | zero =>
    intro c hc x hx
    have hc6 : c = 6 := by omega
    subst hc6
    refine ⟨1, fun _ => ?_, fun z => absurd (by decide) z⟩
    rcases hx with ⟨rfl, b1, b2⟩ | ⟨rfl, b2⟩
    · exact ⟨Or.inr rfl, h1 b1 b2⟩
    · exact ⟨Or.inl rfl, h0 b2⟩
  | succ d ih =>
    intro c hc x hx
    rcases hx with ⟨rfl, b1, b2⟩ | ⟨rfl, b2⟩
    · have hti := hA.to i c hi (by omega)
      have htj := hA.to j c hj (by omega)
      by_cases e : gA g (D.au.to i c) = gA g (D.au.to j c)
      · obtain ⟨n, hn⟩ := ih (c + 1) (by omega) 1 (Or.inl ⟨rfl, b1, fun c' hc' => by
          by_cases q : c' = c
          · rw [q]; exact e
          · exact b2 c' (by omega)⟩)
        refine ⟨n + 1, fun z => absurd z (nI_ge (b := 6) (by omega) (by omega)), fun _ => ⟨fun z => absurd z (by decide), fun _ => q_M_go hA hM hS hi (by omega) (q_M_go hA hM hS hj (by omega) ?_)⟩⟩
        rw [nI_1]
        rw [gA_iff (hg _ hti) (hg _ htj)] at e
        rcases e with ⟨a, b⟩ | ⟨a, b, e⟩
        · rw [gT_0 a, gT_0 b]
          exact ⟨fun _ => ⟨fun z => absurd rfl z, fun _ => hn⟩, fun z => absurd rfl z⟩
        · rw [gT_n a, gT_n b]
          refine ⟨fun z => absurd z (nI_nm1 (by omega)), fun _ => ⟨fun _ => ?_, fun z => absurd z (nI_nm1 (by omega))⟩⟩
          exact q_M_groupAt hA hM hG hti (q_M_groupAt hA hM hG htj ⟨fun z => absurd ((hG.eq _ _ hti htj).mpr e) z, fun _ => hn⟩)
      · obtain ⟨n, hn⟩ := ih (c + 1) (by omega) 0 (Or.inr ⟨rfl, fun q => e (q.2 c (by omega))⟩)
        refine ⟨n + 1, fun z => absurd z (nI_ge (b := 6) (by omega) (by omega)), fun _ => ⟨fun z => absurd z (by decide), fun _ => q_M_go hA hM hS hi (by omega) (q_M_go hA hM hS hj (by omega) ?_)⟩⟩
        rw [nI_1]
        rw [gA_iff (hg _ hti) (hg _ htj)] at e
        by_cases a : D.au.to i c = 0 <;> by_cases b : D.au.to j c = 0
        · exact absurd (Or.inl ⟨a, b⟩) e
        · rw [gT_0 a, gT_n b]
          exact ⟨fun _ => ⟨fun _ => hn, fun z => absurd z.symm (nI_nm1 (by omega))⟩, fun z => absurd rfl z⟩
        · rw [gT_n a, gT_0 b]
          exact ⟨fun z => absurd z (nI_nm1 (by omega)), fun _ => ⟨fun z => absurd rfl z, fun _ => ⟨fun _ => hn, fun z => absurd z (nI_nm1 (by omega))⟩⟩⟩
        · rw [gT_n a, gT_n b]
          refine ⟨fun z => absurd z (nI_nm1 (by omega)), fun _ => ⟨fun _ => ?_, fun z => absurd z (nI_nm1 (by omega))⟩⟩
          exact q_M_groupAt hA hM hG hti (q_M_groupAt hA hM hG htj ⟨fun _ => hn, fun z => absurd (Or.inr ⟨a, b, (hG.eq _ _ hti htj).mp z⟩) e⟩)
    · refine ⟨1, fun z => absurd z (nI_ge (b := 6) (by omega) (by omega)), fun _ => ⟨fun _ => ⟨Or.inl rfl, h0 (fun q => b2 ⟨q.1, fun c' hc' => q.2 c' (by omega)⟩)⟩, fun z => absurd rfl z⟩⟩
theorem q_M_alike {D : Md} (hA : D.au.Ok) {M : Nat} (hM : M < 3) {no se st gr gm : Nat → Int32} {g : Nat → Nat} (hS : RS D M no se st) (hG : GG D.au M gr gm g) (hg : ∀ k, k < D.au.N → g k < 2 ^ 31) {i j : Nat} (hi : i < D.au.N) (hj : j < D.au.N) {post : Int32 → Prop}
    (h1 : alike D.au g i j → post 1) (h0 : ¬ alike D.au g i j → post 0) : p_M_alike gr st (nI M) (nI i) (nI j) post := by
  refine q_M_groupAt hA hM hG hi (q_M_groupAt hA hM hG hj ⟨fun e => ?_, fun e => ?_⟩)
  · have e' : ¬ g i = g j := fun q => e ((hG.eq i j hi hj).mpr q)
    exact q_M_alike25 hA hM hS hG hg hi hj (b := g i = g j) (fun b1 b2 => h1 ⟨b1, b2⟩) (fun b2 => h0 (fun q => b2 ⟨q.1, q.2⟩)) 6 0 rfl 0 (Or.inr ⟨rfl, fun q => e' q.1⟩)
  · have e' : g i = g j := (hG.eq i j hi hj).mp e
    exact q_M_alike25 hA hM hS hG hg hi hj (b := g i = g j) (fun b1 b2 => h1 ⟨b1, b2⟩) (fun b2 => h0 (fun q => b2 ⟨q.1, q.2⟩)) 6 0 rfl 1 (Or.inl ⟨rfl, e', fun c' hc => absurd hc (Nat.not_lt_zero _)⟩)
/-- split under way -/
def SI (D : Md) (M : Nat) (g : Nat → Nat) (i n : Nat) (f s : Nat → Nat) (sa fr : Nat → Int32) : Prop :=
  (Canon i f n s) ∧
  (∀ a b, a < i → b < i → (f a = f b ↔ alike D.au g a b)) ∧
  (∀ h, h < n → sa (514 * M + h) = nI (s h)) ∧
  (∀ k, k < i → fr k = nI (f k))
theorem SI.can {D : Md} {M : Nat} {g : Nat → Nat} {i n : Nat} {f s : Nat → Nat} {sa fr : Nat → Int32} (h_ : SI D M g i n f s sa fr) : Canon i f n s := h_.1
theorem SI.al {D : Md} {M : Nat} {g : Nat → Nat} {i n : Nat} {f s : Nat → Nat} {sa fr : Nat → Int32} (h_ : SI D M g i n f s sa fr) : ∀ a b, a < i → b < i → (f a = f b ↔ alike D.au g a b) := h_.2.1
theorem SI.sa {D : Md} {M : Nat} {g : Nat → Nat} {i n : Nat} {f s : Nat → Nat} {sa fr : Nat → Int32} (h_ : SI D M g i n f s sa fr) : ∀ h, h < n → sa (514 * M + h) = nI (s h) := h_.2.2.1
theorem SI.fr {D : Md} {M : Nat} {g : Nat → Nat} {i n : Nat} {f s : Nat → Nat} {sa fr : Nat → Int32} (h_ : SI D M g i n f s sa fr) : ∀ k, k < i → fr k = nI (f k) := h_.2.2.2

theorem q_M_split90 {D : Md} (hA : D.au.Ok) {M : Nat} (hM : M < 3) {no : Nat → Int32} (hno : no M = nI D.au.N) {f : Nat → Nat} {x : Int32} {sa gr fr : Nat → Int32} (hfr : ∀ k, k < D.au.N → fr k = nI (f k)) {post : Int32 → (Nat → Int32) → (Nat → Int32) → (Nat → Int32) → Prop}
    (hp : ∀ gr', Blk 514 M gr gr' → (∀ k, k < D.au.N → gr' (514 * M + k) = nI (f k)) → post x sa gr' fr) : ∃ k, p_M_split_90 no (nI M) post k x 0 sa gr fr := by
  have hle := hA.le
  refine pk_loop (fun n i gr' => p_M_split_90 no (nI M) post n x (nI i) sa gr' fr) (fun i gr' => Blk 514 M gr gr' ∧ ∀ k, k < i → gr' (514 * M + k) = nI (f k)) D.au.N 0 gr (Nat.zero_le _) ⟨Blk.refl, fun k hk => absurd hk (Nat.not_lt_zero _)⟩ ?_ ?_
  · intro n gr' hI
    refine ⟨vp_in_nI hM (by omega), ?_⟩
    rw [nI_clamp (by omega), hno]
    exact ⟨fun _ => hp gr' hI.1 hI.2, fun z => absurd (nI_le (Nat.le_refl _) (by omega)) z⟩
  · intro n i gr' hi hI hk
    refine ⟨vp_in_nI hM (by omega), ?_⟩
    rw [nI_clamp (by omega), hno, ix514, nI_clamp (n := 514 * M + i) (by omega), nI_clamp (n := i) (by omega), hfr i hi, nI_1]
    refine ⟨fun z => absurd z (nI_ge hi (by omega)), fun _ => ⟨vp_in_nI (by omega) (by omega), vp_in_nI (by omega) (by omega), hk _ ⟨hI.1.upd (by omega), fun k hk => ?_⟩⟩⟩
    by_cases e : k = i
    · subst e; rw [pk_us]
    · rw [pk_un (by omega)]; exact hI.2 k (by omega)
theorem q_M_split {D : Md} (hA : D.au.Ok) {M : Nat} (hM : M < 3) {no se st gr gm sa fr : Nat → Int32} {g : Nat → Nat} (hS : RS D M no se st) (hG : GG D.au M gr gm g) (hg : ∀ k, k < D.au.N → g k < 2 ^ 31) {post : Int32 → (Nat → Int32) → (Nat → Int32) → (Nat → Int32) → Prop}
    (hp : ∀ (n : Nat) (f s : Nat → Nat) sa' gr' fr', Fine D.au g f n s → Blk 514 M sa sa' → Blk 514 M gr gr' → (∀ k, k < D.au.N → gr' (514 * M + k) = nI (f k)) → (∀ h, h < n → sa' (514 * M + h) = nI (s h)) → post (nI n) sa' gr' fr') : p_M_split no sa gr st fr (nI M) post := by
  have hle := hA.le
  refine pk_loop (σ := Nat × (Nat → Nat) × (Nat → Nat) × (Nat → Int32) × (Nat → Int32)) (fun k i q => p_M_split_4 no st (nI M) post k (nI q.1) (nI i) q.2.2.2.1 gr q.2.2.2.2) (fun i q => Blk 514 M sa q.2.2.2.1 ∧ SI D M g i q.1 q.2.1 q.2.2.1 q.2.2.2.1 q.2.2.2.2) D.au.N 0 (0, id, id, sa, fr) (Nat.zero_le _) ?_ ?_ ?_
  · exact ⟨Blk.refl, ⟨fun k hk => absurd hk (Nat.not_lt_zero _), fun i hi => absurd hi (Nat.not_lt_zero _)⟩, fun a b ha => absurd ha (Nat.not_lt_zero _), fun h hh => absurd hh (Nat.not_lt_zero _), fun h hh => absurd hh (Nat.not_lt_zero _)⟩
  · rintro k ⟨n, f, s, sa', fr'⟩ ⟨hb, hI⟩
    dsimp only at hb hI ⊢
    refine ⟨vp_in_nI hM (by omega), ?_⟩
    rw [nI_clamp (by omega), hS.no]
    refine ⟨fun _ => ?_, fun z => absurd (nI_le (Nat.le_refl _) (by omega)) z⟩
    exact q_M_split90 hA hM hS.no hI.fr (fun gr' hb2 hgr => hp n f s sa' gr' fr' ⟨hI.can, hI.al⟩ hb hb2 hgr hI.sa)
  · rintro k i ⟨n, f, s, sa', fr'⟩ hi ⟨hb, hI⟩ hk
    dsimp only at hb hI hk ⊢
    have hni := hI.can.le
    refine ⟨vp_in_nI hM (by omega), ?_⟩
    rw [nI_clamp (by omega), hS.no]
    refine ⟨fun z => absurd z (nI_ge hi (by omega)), fun _ => ?_⟩
    have hi5 : vp_in (nI i) 514 := vp_in_nI (by omega) (by omega)
    have key : ∀ (d h : Nat), h + d = n → (∀ h', h' < h → ¬ alike D.au g i (s h')) → ∃ m, p_M_split_17 st (nI M) post (p_M_split_4 no st (nI M) post k) m (nI n) (nI i) (nI h) sa' gr fr' := by
      intro d
      induction d with
      | zero =>
        intro h hh hno
        have e : h = n := by omega
        subst e
        refine ⟨1, fun _ => ⟨fun z => absurd rfl z, fun _ => ?_⟩, fun z => absurd (nI_le (Nat.le_refl _) (by omega)) z⟩
        rw [ix514, nI_clamp (n := 514 * M + h) (by omega), nI_clamp (n := i) (by omega), nI_1, nI_1]
        refine ⟨vp_in_nI (by omega) (by omega), hi5, hk (h + 1, updN f i h, updN s h i, upd sa' (514 * M + h) (nI i), upd fr' i (nI h)) ⟨hb.upd (by omega), hI.can.new, al_new hI.can hI.al hno, fun h' hh' => ?_, fun a ha => ?_⟩⟩
        · dsimp only at hh' ⊢
          by_cases e : h' = h
          · subst e; rw [pk_us, updN_s]
          · rw [pk_un (by omega), updN_n e]; exact hI.sa h' (by omega)
        · dsimp only
          by_cases e : a = i
          · subst e; rw [pk_us, updN_s]
          · rw [pk_un e, updN_n e]; exact hI.fr a (by omega)
      | succ d ih =>
        intro h hh hno
        have hsN : s h < D.au.N := Nat.lt_trans (hI.can.1 h (by omega)).1 hi
        by_cases al : alike D.au g i (s h)
        · refine ⟨1, fun z => absurd z (nI_ge (by omega) (by omega)), fun _ => ?_⟩
          rw [ix514, nI_clamp (n := 514 * M + h) (by omega), hI.sa h (by omega)]
          refine ⟨vp_in_nI (by omega) (by omega), q_M_alike hA hM hS hG hg hsN hi (fun _ => ⟨fun _ => ⟨fun _ => ⟨hi5, ?_⟩, fun z => absurd ((nI_eq (by omega) (by omega)).mp z) (by omega)⟩, fun z => absurd z (by decide)⟩) (fun z => absurd al.symm z)⟩
          rw [nI_clamp (n := i) (by omega), nI_1]
          refine hk (n, updN f i h, s, sa', upd fr' i (nI h)) ⟨hb, hI.can.old (by omega), al_old hI.can hI.al (by omega) al, hI.sa, fun a ha => ?_⟩
          dsimp only
          by_cases e : a = i
          · subst e; rw [pk_us, updN_s]
          · rw [pk_un e, updN_n e]; exact hI.fr a (by omega)
        · obtain ⟨m, hm⟩ := ih (h + 1) (by omega) (fun h' hh' => by
            by_cases e : h' = h
            · rw [e]; exact al
            · exact hno h' (by omega))
          refine ⟨m + 1, fun z => absurd z (nI_ge (by omega) (by omega)), fun _ => ?_⟩
          rw [ix514, nI_clamp (n := 514 * M + h) (by omega), hI.sa h (by omega), nI_1]
          exact ⟨vp_in_nI (by omega) (by omega), q_M_alike hA hM hS hG hg hsN hi (fun z => absurd z.symm al) (fun _ => ⟨fun z => absurd rfl z, fun _ => hm⟩)⟩
    exact key n 0 (by omega) (fun h' hh' => absurd hh' (Nat.not_lt_zero _))
