/-! The law's world: X (the cells of both objects), pl (the pool of pieces), Mf (the machines, which may be one) -/
def LWd (G : va_G) (A : Nat → Prop) (X pl Mf : va_W) (H : Heap) : Prop := va_P G vwCl (X ++ pl) H ∧ va_D A (X ++ pl) ∧ va_P G vwCl Mf H ∧ gJ (X ++ pl) Mf
theorem gadr {X X' : va_W} (h : X'.map Prod.fst = X.map Prod.fst) {k : Nat} {q : Nat × va_E} (hq : X'[k]? = some q) : ∃ e, X[k]? = some (q.1, e) := by
  have h1 : (X'.map Prod.fst)[k]? = some q.1 := by rw [List.getElem?_map, hq]; rfl
  rw [h, List.getElem?_map] at h1
  cases hx : X[k]? with
  | none => rw [hx] at h1; cases h1
  | some p =>
    rw [hx] at h1
    have : p.1 = q.1 := Option.some.inj h1
    exact ⟨p.2, by rw [← this]⟩
theorem gapp {X Y : va_W} {k : Nat} {q : Nat × va_E} (h : (X ++ Y)[k]? = some q) : X[k]? = some q ∨ ∃ j, Y[j]? = some q ∧ k = X.length + j := by
  rcases Nat.lt_or_ge k X.length with z | z
  · left; rw [List.getElem?_append_left z] at h; exact h
  · right
    rw [List.getElem?_append_right z] at h
    exact ⟨k - X.length, h, by omega⟩
theorem gappL {X Y : va_W} {k : Nat} {q : Nat × va_E} (h : X[k]? = some q) : (X ++ Y)[k]? = some q := by rw [List.getElem?_append_left (List.getElem?_eq_some_iff.mp h).1]; exact h
theorem gappR {X Y : va_W} {k : Nat} {q : Nat × va_E} (h : Y[k]? = some q) : (X ++ Y)[X.length + k]? = some q := by rw [List.getElem?_append_right (by omega), show X.length + k - X.length = k by omega]; exact h
theorem va_P_l {G : va_G} {X Y : va_W} {H : Heap} (h : va_P G vwCl (X ++ Y) H) : va_P G vwCl X H := fun k q hk => h k q (gappL hk)
theorem va_P_r {G : va_G} {X Y : va_W} {H : Heap} (h : va_P G vwCl (X ++ Y) H) : va_P G vwCl Y H := fun k q hk => h _ q (gappR hk)
theorem va_D_l {A : Nat → Prop} {X Y : va_W} (h : va_D A (X ++ Y)) : va_D A X := ⟨fun i j p q hi hj e => h.1 i j p q (gappL hi) (gappL hj) e, fun k q hk => h.2 k q (gappL hk)⟩
theorem va_D_r {A : Nat → Prop} {X Y : va_W} (h : va_D A (X ++ Y)) : va_D A Y := ⟨fun i j p q hi hj e => by have := h.1 _ _ p q (gappR hi) (gappR hj) e; omega, fun k q hk => h.2 _ q (gappR hk)⟩
theorem va_D_x {A : Nat → Prop} {X Y : va_W} (h : va_D A (X ++ Y)) {i j : Nat} {p q : Nat × va_E} (hi : X[i]? = some p) (hj : Y[j]? = some q) : p.1 ≠ q.1 := fun e => by
  have := h.1 _ _ p q (gappL hi) (gappR hj) e
  have := (List.getElem?_eq_some_iff.mp hi).1
  omega
theorem gmem {is : List Nat} {w X : va_W} (h : is.map (fun i => X[i]?) = w.map some) {k : Nat} (hk : k ∈ is) {q : Nat × va_E} (hq : X[k]? = some q) : ∃ j : Nat, w[j]? = some q := by
  obtain ⟨j, hj, e⟩ := List.mem_iff_getElem.mp hk
  refine ⟨j, ?_⟩
  have h1 : (is.map (fun i => X[i]?))[j]? = some X[k]? := by rw [List.getElem?_map, List.getElem?_eq_getElem hj, e]; rfl
  rw [h, List.getElem?_map, hq] at h1
  cases hw : w[j]? with
  | none => rw [hw] at h1; cases h1
  | some p => rw [hw] at h1; exact Option.some.inj h1
theorem gsame {X X' : va_W} {isC isR : List Nat} {N : Nat} (ha : X'.map Prod.fst = X.map Prod.fst) (hR : isR.map (fun i => X'[i]?) = isR.map (fun i => X[i]?)) (hN : X.length = N) (hcov : ∀ k, k < N → k ∈ isC ∨ k ∈ isR) {k : Nat} (hk : k ∉ isC) : X'[k]? = X[k]? := by
  have hl : X'.length = X.length := by have := congrArg List.length ha; simpa using this
  rcases Nat.lt_or_ge k N with z | z
  · have hkR := (hcov k z).resolve_left hk
    exact (List.map_inj_left.mp hR) k hkR
  · rw [List.getElem?_eq_none (by omega), List.getElem?_eq_none (by omega)]
/-- some cells of X are written, the rest stays -/
theorem LWd.set {G : va_G} {A : Nat → Prop} {X pl Mf : va_W} {H H1 : Heap} (h : LWd G A X pl Mf H) {wc w1 : va_W} (isC : List Nat) (hC : isC.map (fun i => X[i]?) = wc.map some) (hk : ∀ q : Nat, q < H.size → ¬ va_A wc H.size q → H1[q]? = H[q]?) (hP1 : va_P G vwCl w1 H1)
    {X' : va_W} {isR : List Nat} {N : Nat} (hR : isR.map (fun i => X'[i]?) = isR.map (fun i => X[i]?)) (hN : X.length = N) (hcov : ∀ k, k < N → k ∈ isC ∨ k ∈ isR) (hC1 : isC.map (fun i => X'[i]?) = w1.map some) (ha : X'.map Prod.fst = X.map Prod.fst) : LWd G A X' pl Mf H1 := by
  obtain ⟨hP, hD, hM, hJ⟩ := h
  have inC : ∀ (q : Nat), (∃ (k : Nat) (e : va_E), wc[k]? = some (q, e)) → ∃ i ∈ isC, ∃ e, X[i]? = some (q, e) := fun q ⟨k, e, hq⟩ => by
    obtain ⟨i, h1, h2⟩ := g_at hC k (q, e) hq
    exact ⟨i, h1, e, h2⟩
  have hne : ∀ k, k ∉ isC → X'[k]? = X[k]? := fun k hk' => gsame ha hR hN hcov hk'
  have kept : ∀ q : Nat, q < H.size → (∀ i ∈ isC, ∀ e, X[i]? ≠ some (q, e)) → H1[q]? = H[q]? := fun q h1 h2 => hk q h1 (fun z => by
    rcases z with z | z
    · obtain ⟨i, hi, e, he⟩ := inC q z
      exact h2 i hi e he
    · omega)
  refine ⟨fun k q hq => ?_, ⟨fun i j p q hi hj e => ?_, fun k q hq => ?_⟩, hM.kept (fun k q hq => kept q.1 (hM k q hq).lt (fun i _ e he => hJ k q hq i (q.1, e) (gappL he) rfl)), fun k q hq j p hp => ?_⟩
  · rcases gapp hq with hq | ⟨j, hq, -⟩
    · by_cases hki : k ∈ isC
      · obtain ⟨j, hj⟩ := gmem hC1 hki hq
        exact hP1 j q hj
      · rw [hne k hki] at hq
        have h0 := hP k q (gappL hq)
        refine h0.kept (kept q.1 h0.lt (fun i hi e he => ?_))
        have := hD.1 i k (q.1, e) q (gappL he) (gappL hq) rfl
        subst this
        exact hki hi
    · have h0 := hP _ q (gappR hq)
      exact h0.kept (kept q.1 h0.lt (fun i hi e he => va_D_x hD he hq rfl))
  · have hl : X'.length = X.length := by have := congrArg List.length ha; simpa using this
    have go : ∀ (i : Nat) (p : Nat × va_E), (X' ++ pl)[i]? = some p → ∃ e, (X ++ pl)[i]? = some (p.1, e) := fun i p hi => by
      rcases gapp hi with hi | ⟨j, hi, ek⟩
      · obtain ⟨e, he⟩ := gadr ha hi
        exact ⟨e, gappL he⟩
      · exact ⟨p.2, by rw [ek, hl]; exact gappR hi⟩
    obtain ⟨e1, h1⟩ := go i p hi
    obtain ⟨e2, h2⟩ := go j q hj
    exact hD.1 i j _ _ h1 h2 e
  · rcases gapp hq with hq | ⟨j, hq, -⟩
    · obtain ⟨e, he⟩ := gadr ha hq
      exact hD.2 k (q.1, e) (gappL he)
    · exact hD.2 _ q (gappR hq)
  · rcases gapp hp with hp | ⟨i, hp, -⟩
    · obtain ⟨e, he⟩ := gadr ha hp
      exact hJ k q hq j (p.1, e) (gappL he)
    · exact hJ k q hq _ p (gappR hp)
/-- a machine is written: all that are that one -/
theorem LWd.setM {G : va_G} {A : Nat → Prop} {X pl Mf : va_W} {H H1 : Heap} (h : LWd G A X pl Mf H) {a : Nat} {e0 e1 : va_E} (hc : ∃ k : Nat, Mf[k]? = some (a, e0)) (hk : ∀ q : Nat, q < H.size → ¬ va_A [(a, e0)] H.size q → H1[q]? = H[q]?) (hP1 : va_P G vwCl [(a, e1)] H1)
    {Mf' : va_W} (hM' : ∀ (k : Nat) (q : Nat × va_E), Mf'[k]? = some q → q = (a, e1) ∨ (q.1 ≠ a ∧ ∃ j : Nat, Mf[j]? = some q)) : LWd G A X pl Mf' H1 := by
  obtain ⟨hP, hD, hM, hJ⟩ := h
  obtain ⟨k0, hk0⟩ := hc
  have kept : ∀ q : Nat, q < H.size → q ≠ a → H1[q]? = H[q]? := fun q h1 h2 => hk q h1 (fun z => by
    rcases z with ⟨k, e, z⟩ | z
    · have : (q, e) ∈ [(a, e0)] := List.mem_of_getElem? z
      rw [List.mem_singleton] at this
      exact h2 (congrArg Prod.fst this)
    · omega)
  refine ⟨hP.kept (fun k q hq => kept q.1 (hP k q hq).lt (hJ k0 (a, e0) hk0 k q hq)), hD, fun k q hq => ?_, fun k q hq j p hp => ?_⟩
  · rcases hM' k q hq with e | ⟨e, i, hi⟩
    · subst e; exact hP1 0 _ rfl
    · have h0 := hM i q hi
      exact h0.kept (kept q.1 h0.lt e)
  · rcases hM' k q hq with e | ⟨e, i, hi⟩
    · subst e; exact hJ k0 (a, e0) hk0 j p hp
    · exact hJ i q hi j p hp
/-- a rule is made or not: the pool changes, machines are made -/
theorem LWd.setP {G : va_G} {A : Nat → Prop} {X pl Mf : va_W} {H H1 : Heap} (h : LWd G A X pl Mf H) (hA : ∀ q : Nat, H.size ≤ q → A q) {wc w1 nm pl' : va_W} (isC : List Nat) (hC : isC.map (fun i => X[i]?) = wc.map some) (hk : ∀ q : Nat, q < H.size → ¬ va_A (wc ++ pl) H.size q → H1[q]? = H[q]?) (hP1 : va_P G vwCl ((w1 ++ nm) ++ pl') H1) (hD1 : va_D (va_A (wc ++ pl) H.size) ((w1 ++ nm) ++ pl'))
    {X' Mf' : va_W} {isR : List Nat} {N : Nat} (hR : isR.map (fun i => X'[i]?) = isR.map (fun i => X[i]?)) (hN : X.length = N) (hcov : ∀ k, k < N → k ∈ isC ∨ k ∈ isR) (hC1 : isC.map (fun i => X'[i]?) = w1.map some) (ha : X'.map Prod.fst = X.map Prod.fst) (hM' : ∀ (k : Nat) (q : Nat × va_E), Mf'[k]? = some q → (∃ j : Nat, Mf[j]? = some q) ∨ ∃ j : Nat, nm[j]? = some q) : LWd G A X' pl' Mf' H1 := by
  obtain ⟨hP, hD, hM, hJ⟩ := h
  have hne : ∀ k, k ∉ isC → X'[k]? = X[k]? := fun k hk' => gsame ha hR hN hcov hk'
  -- an address that is free to the call is of wc, of pl, or new
  have fr : ∀ q : Nat, va_A (wc ++ pl) H.size q → (∃ i ∈ isC, ∃ e, X[i]? = some (q, e)) ∨ (∃ (j : Nat) (e : va_E), pl[j]? = some (q, e)) ∨ H.size ≤ q := fun q z => by
    rcases z with ⟨k, e, z⟩ | z
    · rcases gapp z with z | ⟨j, z, -⟩
      · obtain ⟨i, h1, h2⟩ := g_at hC k (q, e) z
        exact Or.inl ⟨i, h1, e, h2⟩
      · exact Or.inr (Or.inl ⟨j, e, z⟩)
    · exact Or.inr (Or.inr z)
  -- a cell that the call leaves beside w1 lies apart from all of X
  have apX : ∀ (b : Nat), va_A (wc ++ pl) H.size b → (∀ (j : Nat) (p : Nat × va_E), w1[j]? = some p → p.1 ≠ b) → ∀ (k : Nat) (q : Nat × va_E), X'[k]? = some q → q.1 ≠ b := by
    intro b hb hw k q hq e
    by_cases hki : k ∈ isC
    · obtain ⟨j, hj⟩ := gmem hC1 hki hq
      exact hw j q hj e
    · rw [hne k hki] at hq
      rcases fr b hb with ⟨i, hi, e', he'⟩ | ⟨j, e', he'⟩ | z
      · have := hD.1 i k (b, e') q (gappL he') (gappL hq) e.symm
        subst this
        exact hki hi
      · exact va_D_x hD hq he' e
      · have := (hP k q (gappL hq)).lt
        omega
  have apM : ∀ (b : Nat), va_A (wc ++ pl) H.size b → ∀ (k : Nat) (q : Nat × va_E), Mf[k]? = some q → b ≠ q.1 := by
    intro b hb k q hq e
    rcases fr b hb with ⟨i, hi, e', he'⟩ | ⟨j, e', he'⟩ | z
    · exact hJ k q hq i (b, e') (gappL he') e
    · exact hJ k q hq _ (b, e') (gappR he') e
    · have := (hM k q hq).lt
      omega
  have w1nm : ∀ (i j : Nat) (p q : Nat × va_E), w1[i]? = some p → nm[j]? = some q → p.1 ≠ q.1 := fun i j p q hi hj => va_D_x (va_D_l hD1) hi hj
  have w1pl : ∀ (i j : Nat) (p q : Nat × va_E), w1[i]? = some p → pl'[j]? = some q → p.1 ≠ q.1 := fun i j p q hi hj => va_D_x hD1 (gappL hi) hj
  have nmpl : ∀ (i j : Nat) (p q : Nat × va_E), nm[i]? = some p → pl'[j]? = some q → p.1 ≠ q.1 := fun i j p q hi hj => va_D_x hD1 (gappR hi) hj
  have nmA : ∀ (j : Nat) (q : Nat × va_E), nm[j]? = some q → va_A (wc ++ pl) H.size q.1 := fun j q hj => hD1.2 _ q (gappL (gappR hj))
  have plA : ∀ (j : Nat) (q : Nat × va_E), pl'[j]? = some q → va_A (wc ++ pl) H.size q.1 := fun j q hj => hD1.2 _ q (gappR hj)
  have frA : ∀ q : Nat, va_A (wc ++ pl) H.size q → A q := fun q z => by
    rcases fr q z with ⟨i, hi, e, he⟩ | ⟨j, e, he⟩ | z
    · exact hD.2 i (q, e) (gappL he)
    · exact hD.2 _ (q, e) (gappR he)
    · exact hA q z
  have keptX : ∀ (k : Nat) (q : Nat × va_E), k ∉ isC → X[k]? = some q → H1[q.1]? = H[q.1]? := fun k q hki hq => hk q.1 (hP k q (gappL hq)).lt (fun z => by
    rcases fr q.1 z with ⟨i, hi, e', he'⟩ | ⟨j, e', he'⟩ | z
    · have := hD.1 i k (q.1, e') q (gappL he') (gappL hq) rfl
      subst this
      exact hki hi
    · exact va_D_x hD hq he' rfl
    · have := (hP k q (gappL hq)).lt
      omega)
  refine ⟨?_, ⟨fun i j p q hi hj e => ?_, fun k q hq => ?_⟩, ?_, fun k q hq j p hp => ?_⟩
  · intro k q hq
    rcases gapp hq with hq | ⟨j, hq, -⟩
    · by_cases hki : k ∈ isC
      · obtain ⟨j, hj⟩ := gmem hC1 hki hq
        exact hP1 _ q (gappL (gappL hj))
      · rw [hne k hki] at hq
        exact (hP k q (gappL hq)).kept (keptX k q hki hq)
    · exact hP1 _ q (gappR hq)
  · rcases gapp hi with hi | ⟨i', hi, ei⟩ <;> rcases gapp hj with hj | ⟨j', hj, ej⟩
    · obtain ⟨e1, h1⟩ := gadr ha hi
      obtain ⟨e2, h2⟩ := gadr ha hj
      exact hD.1 i j _ _ (gappL h1) (gappL h2) e
    · exact absurd e (apX q.1 (plA j' q hj) (fun j2 p2 h2 => w1pl j2 j' p2 q h2 hj) i p hi)
    · exact absurd e.symm (apX p.1 (plA i' p hi) (fun j2 p2 h2 => w1pl j2 i' p2 p h2 hi) j q hj)
    · have := (va_D_r hD1).1 i' j' p q hi hj e
      omega
  · rcases gapp hq with hq | ⟨j, hq, -⟩
    · obtain ⟨e, he⟩ := gadr ha hq
      exact hD.2 k (q.1, e) (gappL he)
    · exact frA _ (plA j q hq)
  · intro k q hq
    rcases hM' k q hq with ⟨j, hj⟩ | ⟨j, hj⟩
    · have h0 := hM j q hj
      exact h0.kept (hk q.1 h0.lt (fun z => apM q.1 z j q hj rfl))
    · exact hP1 _ q (gappL (gappR hj))
  · rcases hM' k q hq with ⟨i, hi⟩ | ⟨i, hi⟩ <;> rcases gapp hp with hp | ⟨j', hp, -⟩
    · obtain ⟨e, he⟩ := gadr ha hp
      exact hJ i q hi j (p.1, e) (gappL he)
    · exact apM p.1 (plA j' p hp) i q hi
    · exact apX q.1 (nmA i q hi) (fun j2 p2 h2 => w1nm j2 i p2 q h2 hi) j p hp
    · exact fun e => nmpl i j' q p hi hp e.symm
/-- what a call reads lies apart from what it writes -/
theorem LWd.j {G : va_G} {A : Nat → Prop} {X pl Mf : va_W} {H : Heap} (h : LWd G A X pl Mf H) {wc rc : va_W} (isC isK : List Nat) (hC : isC.map (fun i => X[i]?) = wc.map some) (hK : isK.map (fun i => (X ++ Mf)[i]?) = rc.map some) (hdis : ∀ i ∈ isK, i ∉ isC) : gJ wc rc := by
  obtain ⟨hP, hD, hM, hJ⟩ := h
  intro k q hq j p hp e
  obtain ⟨i, hi, h1⟩ := g_at hC j p hp
  obtain ⟨i', hi', h2⟩ := g_at hK k q hq
  rcases gapp h2 with h2 | ⟨j2, h2, -⟩
  · have := hD.1 i i' p q (gappL h1) (gappL h2) e
    subst this
    exact hdis i hi' hi
  · exact hJ j2 q h2 i p (gappL h1) e
theorem LWd.rd {G : va_G} {A : Nat → Prop} {X pl Mf : va_W} {H : Heap} (h : LWd G A X pl Mf H) {rc : va_W} (isK : List Nat) (hK : isK.filterMap (fun i => (X ++ Mf)[i]?) = rc) : va_P G vwCl rc H := ((va_P_l h.1).app h.2.2.1).sub isK hK
theorem LWd.wr {G : va_G} {A : Nat → Prop} {X pl Mf : va_W} {H : Heap} (h : LWd G A X pl Mf H) {wc : va_W} (isC : List Nat) (hC : isC.filterMap (fun i => X[i]?) = wc) : va_P G vwCl wc H := (va_P_l h.1).sub isC hC
theorem LWd.wd {G : va_G} {A : Nat → Prop} {X pl Mf : va_W} {H : Heap} (h : LWd G A X pl Mf H) {wc : va_W} (isC : List Nat) (hn : va_nd isC = true) (hC : isC.map (fun i => X[i]?) = wc.map some) : va_D A wc := (va_D_l h.2.1).sub isC hn hC
section LC
variable {p : Program} {l : Launch} {e : Env} {R : Room} {s : State} {m : MethodId} {args : Array Value} {below : List Frame} {meth : Method} {c : Code} {H : Heap} {locs : List Loc} {cells slots : Nat} {Q : State → Prop}
variable {pc : Nat} {ls : Array Slot} {rest st0 : List Value} {a : Array Value} {A : Nat → Prop} {mc ms : Nat} {G : va_G} {K : Nat → ClassId} {X pl Mf wc : va_W}
/-- a call that writes cells of X alone, and answers an int -/
theorem l_calli {S : Type} {post : Int32 → S → Prop} {W1 : S → va_W} (hr : va_Run p l e R s m args below meth c H locs cells slots mc ms (F0 m pc ls st0) rest (va_Qi post (fun u t => gB G K (W1 u) (va_A wc H.size) t) (va_A wc H.size) a) (va_A wc H.size)) (hL : LWd G A X pl Mf H) (hS : va_S A s.heap H locs) (hA : ∀ q : Nat, s.heap.size ≤ q → A q)
    (isC : List Nat) (hC : isC.map (fun i => X[i]?) = wc.map some)
    (kk : ∀ (r : Int32) (u : S) (H1 : Heap) (locs1 : List Loc), post r u → (∀ (X' : va_W) (isR : List Nat) (N : Nat), isR.map (fun i => X'[i]?) = isR.map (fun i => X[i]?) → X.length = N → (∀ k, k < N → k ∈ isC ∨ k ∈ isR) → isC.map (fun i => X'[i]?) = (W1 u).map some → X'.map Prod.fst = X.map Prod.fst → LWd G A X' pl Mf H1) → va_S A s.heap H1 locs1 → W p l e R s m args below meth c H1 locs1 (cells + mc) (slots + ms) Q (F0 m (pc + 3) ls (.int r :: rest))) : W p l e R s m args below meth c H locs cells slots Q (F0 m pc ls st0) := by
  have hFc := va_free (wc := wc) (va_D_l hL.2.1) hS hA isC hC
  refine va_calli hr hS (fun q _ h => hFc q h) hFc (fun r u t H1 locs ht hvm hw hB hz1 hk1 hS => ?_)
  obtain ⟨hP1, hK1, hD1⟩ := hB
  rw [ht] at hP1
  exact kk r u H1 locs hw (fun X' isR N h1 h2 h3 h4 h5 => hL.set isC hC hk1 hP1 h1 h2 h3 h4 h5) hS
/-- the same, no answer -/
theorem l_callv {S : Type} {post : S → Prop} {W1 : S → va_W} (hr : va_Run p l e R s m args below meth c H locs cells slots mc ms (F0 m pc ls st0) rest (va_Qv post (fun u t => gB G K (W1 u) (va_A wc H.size) t) (va_A wc H.size) a) (va_A wc H.size)) (hL : LWd G A X pl Mf H) (hS : va_S A s.heap H locs) (hA : ∀ q : Nat, s.heap.size ≤ q → A q)
    (isC : List Nat) (hC : isC.map (fun i => X[i]?) = wc.map some)
    (kk : ∀ (u : S) (H1 : Heap) (locs1 : List Loc), post u → (∀ (X' : va_W) (isR : List Nat) (N : Nat), isR.map (fun i => X'[i]?) = isR.map (fun i => X[i]?) → X.length = N → (∀ k, k < N → k ∈ isC ∨ k ∈ isR) → isC.map (fun i => X'[i]?) = (W1 u).map some → X'.map Prod.fst = X.map Prod.fst → LWd G A X' pl Mf H1) → va_S A s.heap H1 locs1 → W p l e R s m args below meth c H1 locs1 (cells + mc) (slots + ms) Q (F0 m (pc + 3) ls rest)) : W p l e R s m args below meth c H locs cells slots Q (F0 m pc ls st0) := by
  have hFc := va_free (wc := wc) (va_D_l hL.2.1) hS hA isC hC
  refine va_callv hr hS (fun q _ h => hFc q h) hFc (fun u t H1 locs ht hvm hw hB hz1 hk1 hS => ?_)
  obtain ⟨hP1, hK1, hD1⟩ := hB
  rw [ht] at hP1
  exact kk u H1 locs hw (fun X' isR N h1 h2 h3 h4 h5 => hL.set isC hC hk1 hP1 h1 h2 h3 h4 h5) hS
/-- a machine is written -/
theorem l_calliM {S : Type} {post : Int32 → S → Prop} {am : Nat} {e0 : va_E} {E1 : S → va_E} (hr : va_Run p l e R s m args below meth c H locs cells slots mc ms (F0 m pc ls st0) rest (va_Qi post (fun u t => gB G K [(am, E1 u)] (va_A [(am, e0)] H.size) t) (va_A [(am, e0)] H.size) a) (va_A [(am, e0)] H.size)) (hL : LWd G A X pl Mf H) (hS : va_S A s.heap H locs) (hA : ∀ q : Nat, s.heap.size ≤ q → A q) (hAm : A am)
    (hc : ∃ k : Nat, Mf[k]? = some (am, e0))
    (kk : ∀ (r : Int32) (u : S) (H1 : Heap) (locs1 : List Loc), post r u → (∀ Mf' : va_W, (∀ (k : Nat) (q : Nat × va_E), Mf'[k]? = some q → q = (am, E1 u) ∨ (q.1 ≠ am ∧ ∃ j : Nat, Mf[j]? = some q)) → LWd G A X pl Mf' H1) → va_S A s.heap H1 locs1 → W p l e R s m args below meth c H1 locs1 (cells + mc) (slots + ms) Q (F0 m (pc + 3) ls (.int r :: rest))) : W p l e R s m args below meth c H locs cells slots Q (F0 m pc ls st0) := by
  have hFc : ∀ q, va_A [(am, e0)] H.size q → A q := fun q z => by
    rcases z with ⟨k, e', z⟩ | z
    · have : (q, e') ∈ [(am, e0)] := List.mem_of_getElem? z
      rw [List.mem_singleton] at this
      have e1 : q = am := congrArg Prod.fst this
      rw [e1]; exact hAm
    · exact hA q (Nat.le_trans hS.1 z)
  refine va_calli hr hS (fun q _ h => hFc q h) hFc (fun r u t H1 locs ht hvm hw hB hz1 hk1 hS => ?_)
  obtain ⟨hP1, hK1, hD1⟩ := hB
  rw [ht] at hP1
  exact kk r u H1 locs hw (fun Mf' h1 => hL.setM hc hk1 hP1 h1) hS
/-- the pool is written, machines are made -/
theorem l_calliP {S : Type} {post : Int32 → S → Prop} {W1 N1 P1 : S → va_W} (hr : va_Run p l e R s m args below meth c H locs cells slots mc ms (F0 m pc ls st0) rest (va_Qi post (fun u t => gB G K ((W1 u ++ N1 u) ++ P1 u) (va_A (wc ++ pl) H.size) t) (va_A (wc ++ pl) H.size) a) (va_A (wc ++ pl) H.size)) (hL : LWd G A X pl Mf H) (hS : va_S A s.heap H locs) (hA : ∀ q : Nat, s.heap.size ≤ q → A q)
    (isC : List Nat) (hC : isC.map (fun i => X[i]?) = wc.map some)
    (kk : ∀ (r : Int32) (u : S) (H1 : Heap) (locs1 : List Loc), post r u → (∀ (X' Mf' : va_W) (isR : List Nat) (N : Nat), isR.map (fun i => X'[i]?) = isR.map (fun i => X[i]?) → X.length = N → (∀ k, k < N → k ∈ isC ∨ k ∈ isR) → isC.map (fun i => X'[i]?) = (W1 u).map some → X'.map Prod.fst = X.map Prod.fst → (∀ (k : Nat) (q : Nat × va_E), Mf'[k]? = some q → (∃ j : Nat, Mf[j]? = some q) ∨ ∃ j : Nat, (N1 u)[j]? = some q) → LWd G A X' (P1 u) Mf' H1) → (∀ (k : Nat) (q : Nat × va_E), (N1 u)[k]? = some q → A q.1) → va_S A s.heap H1 locs1 → W p l e R s m args below meth c H1 locs1 (cells + mc) (slots + ms) Q (F0 m (pc + 3) ls (.int r :: rest))) : W p l e R s m args below meth c H locs cells slots Q (F0 m pc ls st0) := by
  have hFc := va_freeP (cx := wc) hL.2.1 hS hA isC hC
  refine va_calli hr hS (fun q _ h => hFc q h) hFc (fun r u t H1 locs ht hvm hw hB hz1 hk1 hS' => ?_)
  obtain ⟨hP1, hK1, hD1⟩ := hB
  rw [ht] at hP1
  exact kk r u H1 locs hw (fun X' Mf' isR N h1 h2 h3 h4 h5 h6 => hL.setP (fun q z => hA q (Nat.le_trans hS.1 z)) isC hC hk1 hP1 hD1 h1 h2 h3 h4 h5 h6) (fun k q hq => hFc _ (hD1.2 _ q (gappL (gappR hq)))) hS'
end LC
