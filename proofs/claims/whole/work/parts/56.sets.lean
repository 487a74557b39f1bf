/-! The sets of places, in the order in which they are found -/
def nd (L : List Int32) (k : Nat) : Int32 := L.getD k 0
theorem nd_el {L : List Int32} {k : Nat} (h : k < L.length) : nd L k = L[k] := by
  unfold nd; rw [List.getD_eq_getElem?_getD, List.getElem?_eq_getElem h]; rfl
theorem nd_mem {L : List Int32} {k : Nat} (h : k < L.length) : nd L k ∈ L := by
  rw [nd_el h]; exact List.getElem_mem h
theorem nd_app {L : List Int32} {s : Int32} {k : Nat} (h : k < L.length) : nd (L ++ [s]) k = nd L k := by
  rw [nd_el h, nd_el (by rw [List.length_append]; omega), List.getElem_append_left h]
theorem nd_last {L : List Int32} {s : Int32} : nd (L ++ [s]) L.length = s := by
  rw [nd_el (by rw [List.length_append]; exact Nat.lt_succ_self _), List.getElem_append_right (Nat.le_refl _)]
  simp
def addN (L : List Int32) (s : Int32) : List Int32 := if s ∈ L then L else L ++ [s]
def rowN (D : Md) (s : Int32) (L : List Int32) : Nat → List Int32
  | 0 => L
  | c + 1 => addN (rowN D s L c) (D.nx s c)
def bfs (D : Md) : Nat → Nat → List Int32 → List Int32
  | 0, _, L => L
  | n + 1, i, L => if i < L.length then bfs D n (i + 1) (rowN D (nd L i) L 6) else L
theorem Md.setsX (D : Md) : ∃ L, L = bfs D 513 0 [0] := ⟨_, rfl⟩
noncomputable def Md.sets (D : Md) : List Int32 := Classical.choose D.setsX
theorem Md.sets_eq (D : Md) : D.sets = bfs D 513 0 [0] := Classical.choose_spec D.setsX
theorem nodup_le : ∀ (n : Nat) (L : List Nat), L.Nodup → (∀ x ∈ L, x < n) → L.length ≤ n := by
  intro n
  induction n with
  | zero =>
    intro L _ h
    cases L with
    | nil => exact Nat.le_refl _
    | cons a t => exact absurd (h a (List.mem_cons_self)) (by omega)
  | succ n ih =>
    intro L hd h
    have h1 := ih (L.erase n) (hd.erase n) (fun x hx => by
      have := h x (List.mem_of_mem_erase hx)
      have hne : x ≠ n := fun e => by
        subst e
        exact absurd hx (List.Nodup.not_mem_erase hd)
      omega)
    have h2 : L.length ≤ (L.erase n).length + 1 := by
      rw [List.length_erase]; split <;> omega
    omega
theorem nodup_map {α β : Type} {f : α → β} (hf : ∀ a b, f a = f b → a = b) : ∀ {L : List α}, L.Nodup → (L.map f).Nodup := by
  intro L
  induction L with
  | nil => intro _; exact List.nodup_nil
  | cons a t ih =>
    intro h
    rw [List.nodup_cons] at h
    rw [List.map_cons, List.nodup_cons]
    refine ⟨fun m => ?_, ih h.2⟩
    obtain ⟨b, hb, e⟩ := List.mem_map.mp m
    exact h.1 (hf _ _ e ▸ hb)
def OKL (L : List Int32) : Prop :=
  (L.Nodup) ∧
  (0 < L.length) ∧
  (nd L 0 = 0) ∧
  (∀ x ∈ L, S9 x)
theorem OKL.nu {L : List Int32} (h_ : OKL L) : L.Nodup := h_.1
theorem OKL.pos {L : List Int32} (h_ : OKL L) : 0 < L.length := h_.2.1
theorem OKL.z {L : List Int32} (h_ : OKL L) : nd L 0 = 0 := h_.2.2.1
theorem OKL.s9 {L : List Int32} (h_ : OKL L) : ∀ x ∈ L, S9 x := h_.2.2.2

theorem OKL.le {L : List Int32} (h : OKL L) : L.length ≤ 512 := by
  have := nodup_le 512 (L.map (fun x => x.toBitVec.toNat)) (nodup_map (fun a b e => Int32.toBitVec_inj.mp (BitVec.eq_of_toNat_eq e)) h.nu) (fun x hx => by
    obtain ⟨a, ha, rfl⟩ := List.mem_map.mp hx
    obtain ⟨j, hj, e⟩ := S9_nI (h.s9 a ha)
    show a.toBitVec.toNat < 512
    rw [e, pk_tn (by omega)]; exact hj)
  rw [List.length_map] at this
  exact this
theorem OKL.mem0 {L : List Int32} (h : OKL L) : (0 : Int32) ∈ L := by
  have := nd_mem h.pos; rw [h.z] at this; exact this
theorem OKL.app {L : List Int32} (h : OKL L) {s : Int32} (hs : s ∉ L) (h9 : S9 s) : OKL (L ++ [s]) := by
  refine ⟨?_, ?_, ?_, ?_⟩
  · rw [List.nodup_append]
    refine ⟨h.nu, by simp, fun a ha b hb => ?_⟩
    rw [List.mem_singleton] at hb
    subst hb
    exact fun e => hs (e ▸ ha)
  · rw [List.length_append]; have := h.pos; omega
  · rw [nd_app h.pos]; exact h.z
  · intro x hx
    rcases List.mem_append.mp hx with m | m
    · exact h.s9 x m
    · rw [List.mem_singleton] at m; subst m; exact h9
theorem OKL.add {L : List Int32} (h : OKL L) {s : Int32} (h9 : S9 s) : OKL (addN L s) := by
  unfold addN
  split
  · exact h
  · rename_i hs; exact h.app hs h9
theorem OKL.inj {L : List Int32} (h : OKL L) {i j : Nat} (hi : i < L.length) (hj : j < L.length) (e : nd L i = nd L j) : i = j := by
  rw [nd_el hi, nd_el hj] at e
  have a := List.Nodup.idxOf_getElem h.nu i hi
  have b := List.Nodup.idxOf_getElem h.nu j hj
  rw [e] at a
  omega
theorem OKL.one : OKL [0] := ⟨by simp, by decide, rfl, fun x hx => by rw [List.mem_singleton] at hx; subst hx; exact S9_0⟩
theorem add_len {L : List Int32} {s : Int32} : L.length ≤ (addN L s).length := by
  unfold addN; split
  · exact Nat.le_refl _
  · rw [List.length_append]; omega
theorem add_nd {L : List Int32} {s : Int32} {k : Nat} (h : k < L.length) : nd (addN L s) k = nd L k := by
  unfold addN; split
  · rfl
  · exact nd_app h
theorem add_sub {L : List Int32} {s x : Int32} (h : x ∈ L) : x ∈ addN L s := by
  unfold addN; split
  · exact h
  · exact List.mem_append_left _ h
theorem add_mem {L : List Int32} {s : Int32} : s ∈ addN L s := by
  unfold addN; split
  · assumption
  · exact List.mem_append_right _ (List.mem_singleton.mpr rfl)
theorem row_len {D : Md} {s : Int32} {L : List Int32} : ∀ c, L.length ≤ (rowN D s L c).length := by
  intro c
  induction c with
  | zero => exact Nat.le_refl _
  | succ c ih => exact Nat.le_trans ih add_len
theorem row_nd {D : Md} {s : Int32} {L : List Int32} {k : Nat} (h : k < L.length) : ∀ c, nd (rowN D s L c) k = nd L k := by
  intro c
  induction c with
  | zero => rfl
  | succ c ih =>
    show nd (addN _ _) k = _
    rw [add_nd (Nat.lt_of_lt_of_le h (row_len c)), ih]
/-- the set at a slot: six to a node -/
def slot (D : Md) (L : List Int32) (t : Nat) : Int32 := D.nx (nd L (t / 6)) (t % 6)
/-- slots below m are done -/
def BI (D : Md) (m : Nat) (L : List Int32) : Prop :=
  (OKL L) ∧
  (m ≤ 6 * L.length) ∧
  (∀ t, t < m → slot D L t ∈ L) ∧
  (∀ k, 0 < k → k < L.length → ∃ t, t < m ∧ t < 6 * k ∧ slot D L t = nd L k ∧ ∀ t', t' < t → ∃ j, j < k ∧ slot D L t' = nd L j)
theorem BI.ok {D : Md} {m : Nat} {L : List Int32} (h_ : BI D m L) : OKL L := h_.1
theorem BI.lt {D : Md} {m : Nat} {L : List Int32} (h_ : BI D m L) : m ≤ 6 * L.length := h_.2.1
theorem BI.cl {D : Md} {m : Nat} {L : List Int32} (h_ : BI D m L) : ∀ t, t < m → slot D L t ∈ L := h_.2.2.1
theorem BI.fs {D : Md} {m : Nat} {L : List Int32} (h_ : BI D m L) : ∀ k, 0 < k → k < L.length → ∃ t, t < m ∧ t < 6 * k ∧ slot D L t = nd L k ∧ ∀ t', t' < t → ∃ j, j < k ∧ slot D L t' = nd L j := h_.2.2.2

theorem BI.one {D : Md} : BI D 0 [0] := ⟨OKL.one, Nat.zero_le _, fun t h => absurd h (by omega), fun k h1 h2 => absurd h2 (by simp; omega)⟩
theorem mem_nd {L : List Int32} {x : Int32} (h : x ∈ L) : ∃ j, j < L.length ∧ nd L j = x := by
  obtain ⟨j, hj, e⟩ := List.getElem_of_mem h
  exact ⟨j, hj, by rw [nd_el hj]; exact e⟩
theorem BI.step {D : Md} (hP : D.P ≤ 9) {m : Nat} {L : List Int32} (h : BI D m L) (hm : m < 6 * L.length) : BI D (m + 1) (addN L (slot D L m)) := by
  have h9 : S9 (slot D L m) := Md.nx_S9 hP _ _
  have hsl : ∀ t, t < m + 1 → slot D (addN L (slot D L m)) t = slot D L t := fun t ht => by
    unfold slot
    rw [add_nd (by omega)]
  refine ⟨h.ok.add h9, ?_, ?_, ?_⟩
  · have := @add_len L (slot D L m); omega
  · intro t ht
    rw [hsl t ht]
    by_cases e : t = m
    · subst e; exact add_mem
    · exact add_sub (h.cl t (by omega))
  · intro k hk0 hk
    by_cases hkl : k < L.length
    · obtain ⟨t, ht, ht6, e, hf⟩ := h.fs k hk0 hkl
      refine ⟨t, by omega, ht6, ?_, fun t' ht' => ?_⟩
      · rw [hsl t (by omega), e, add_nd hkl]
      · obtain ⟨j, hj, e2⟩ := hf t' ht'
        exact ⟨j, hj, by rw [hsl t' (by omega), e2, add_nd (by omega)]⟩
    · unfold addN at hk
      split at hk
      · omega
      · rename_i hn
        rw [List.length_append] at hk
        have hkl : k = L.length := by simp at hk; omega
        subst hkl
        refine ⟨m, by omega, hm, ?_, fun t' ht' => ?_⟩
        · rw [hsl m (by omega)]
          unfold addN
          rw [if_neg hn, nd_last]
        · obtain ⟨j, hj, e2⟩ := mem_nd (h.cl t' ht')
          exact ⟨j, hj, by rw [hsl t' (by omega), add_nd hj, e2]⟩
theorem BI.row {D : Md} (hP : D.P ≤ 9) {i : Nat} {L : List Int32} (h : BI D (6 * i) L) (hi : i < L.length) : ∀ c, c ≤ 6 → BI D (6 * i + c) (rowN D (nd L i) L c) := by
  intro c
  induction c with
  | zero => intro _; exact h
  | succ c ih =>
    intro hc
    have h1 := ih (by omega)
    have hl := @row_len D (nd L i) L c
    have e : slot D (rowN D (nd L i) L c) (6 * i + c) = D.nx (nd L i) c := by
      unfold slot
      rw [show (6 * i + c) / 6 = i by omega, show (6 * i + c) % 6 = c by omega, row_nd hi]
    have := h1.step hP (by omega)
    rw [e] at this
    exact this
theorem bfs_ok {D : Md} (hP : D.P ≤ 9) : ∀ (n i : Nat) (L : List Int32), 513 ≤ n + i → BI D (6 * i) L → BI D (6 * (bfs D n i L).length) (bfs D n i L) := by
  intro n
  induction n with
  | zero =>
    intro i L hn h
    have := h.ok.le
    have := h.lt
    omega
  | succ n ih =>
    intro i L hn h
    unfold bfs
    split
    · rename_i hi
      exact ih (i + 1) _ (by omega) (h.row hP hi 6 (Nat.le_refl _))
    · rename_i hi
      have := h.lt
      rw [show L.length = i by omega]
      exact h
theorem Md.sets_ok {D : Md} (hP : D.P ≤ 9) : BI D (6 * D.sets.length) D.sets := by
  rw [D.sets_eq]
  exact bfs_ok hP 513 0 [0] (by omega) BI.one
/-- all that is asked of a mode's places -/
def DOk (D : Md) : Prop :=
  (D.P ≤ 9) ∧
  (∀ p, p < D.P → ∃ r, r < 16 ∧ D.ru p = nI r)
theorem DOk.hP {D : Md} (h_ : DOk D) : D.P ≤ 9 := h_.1
theorem DOk.ru {D : Md} (h_ : DOk D) : ∀ p, p < D.P → ∃ r, r < 16 ∧ D.ru p = nI r := h_.2

theorem winF_in {ru : Nat → Int32} {x : Int32} : ∀ d i, (∀ p, i ≤ p → p < i + d → ∃ r, r < 16 ∧ ru p = nI r) → winF ru x d i = -1 ∨ ∃ r, r < 16 ∧ winF ru x d i = nI r := by
  intro d
  induction d with
  | zero => intro i _; exact Or.inl rfl
  | succ d ih =>
    intro i h
    unfold winF
    split
    · exact Or.inr (h i (Nat.le_refl _) (by omega))
    · exact ih (i + 1) (fun p h1 h2 => h p (by omega) (by omega))
theorem DOk.win {D : Md} (h : DOk D) (s : Int32) : D.win s = -1 ∨ ∃ r, r < 16 ∧ D.win s = nI r :=
  winF_in D.P 0 (fun p _ h2 => h.ru p (by omega))
theorem m1_1 : (-1 : Int32) + 1 = nI 0 := by decide
theorem DOk.win1 {D : Md} (h : DOk D) (s : Int32) : ∃ r, r < 17 ∧ D.win s + 1 = nI r ∧ (r = 0 ↔ D.win s = -1) := by
  rcases h.win s with e | ⟨r, hr, e⟩
  · exact ⟨0, by omega, by rw [e, m1_1], by simp [e]⟩
  · refine ⟨r + 1, by omega, by rw [e, nI_1], ?_⟩
    rw [e]
    constructor
    · intro z; omega
    · intro z
      exact absurd (z ▸ (by decide : (-1 : Int32) < 0)) (nI_pos (n := r) (by omega))
theorem nI_nm1 {n : Nat} (h : n < 2 ^ 31) : ¬ nI n = -1 := fun z => absurd (z ▸ (by decide : (-1 : Int32) < 0)) (nI_pos h)
/-- the builder's rows, when the sets of L are found -/
def CS (D : Md) (L : List Int32) (fc : Int32) (gr fo be : Nat → Int32) : Prop :=
  (fc = nI L.length) ∧
  (∀ k, k < L.length → fo k = nd L k) ∧
  (∀ j, nI j ∈ L → j < 512 → be j = D.bhd (nI j)) ∧
  (∀ j, nI j ∈ L → j < 512 → gr j = D.win (nI j) + 1) ∧
  (∀ j, nI j ∉ L → j < 512 → gr j = -1)
theorem CS.cfc {D : Md} {L : List Int32} {fc : Int32} {gr fo be : Nat → Int32} (h_ : CS D L fc gr fo be) : fc = nI L.length := h_.1
theorem CS.cfo {D : Md} {L : List Int32} {fc : Int32} {gr fo be : Nat → Int32} (h_ : CS D L fc gr fo be) : ∀ k, k < L.length → fo k = nd L k := h_.2.1
theorem CS.cbe {D : Md} {L : List Int32} {fc : Int32} {gr fo be : Nat → Int32} (h_ : CS D L fc gr fo be) : ∀ j, nI j ∈ L → j < 512 → be j = D.bhd (nI j) := h_.2.2.1
theorem CS.cgr {D : Md} {L : List Int32} {fc : Int32} {gr fo be : Nat → Int32} (h_ : CS D L fc gr fo be) : ∀ j, nI j ∈ L → j < 512 → gr j = D.win (nI j) + 1 := h_.2.2.2.1
theorem CS.cno {D : Md} {L : List Int32} {fc : Int32} {gr fo be : Nat → Int32} (h_ : CS D L fc gr fo be) : ∀ j, nI j ∉ L → j < 512 → gr j = -1 := h_.2.2.2.2

theorem q_meet {D : Md} (hD : DOk D) {L : List Int32} (hL : OKL L) {fc : Int32} {gr fo be : Nat → Int32} (h : fc = nI L.length) (h1 : ∀ k, k < L.length → fo k = nd L k) (h2 : ∀ j, nI j ∈ L → j < 512 → be j = D.bhd (nI j)) (h3 : ∀ j, nI j ∈ L → j < 512 → gr j = D.win (nI j) + 1) (h4 : ∀ j, nI j ∉ L → j < 512 → gr j = -1)
    {s : Int32} (h9 : S9 s) (hs : s ∉ L) {post : Int32 → (Nat → Int32) → (Nat → Int32) → (Nat → Int32) → Prop}
    (hp : ∀ fc' fo' be' gr', CS D (L ++ [s]) fc' gr' fo' be' → post fc' fo' be' gr') : p_MachineBuilder_meet fc fo (nI D.P) D.fi D.la D.fo be D.ru gr s post := by
  have hle := (hL.app hs h9).le
  rw [List.length_append] at hle
  simp at hle
  obtain ⟨j, hj, rfl⟩ := S9_nI h9
  subst h
  refine ⟨vp_in_nI (by omega) (by omega), q_placesBehind hD.hP ⟨vp_in_nI hj (by omega), q_winnerOfM hD.hP ⟨vp_in_nI hj (by omega), ?_⟩⟩⟩
  have hin : ∀ i, i < 512 → nI i ∈ L ++ [nI j] → i ≠ j → nI i ∈ L := fun i hi m hne => by
    rcases List.mem_append.mp m with m | m
    · exact m
    · rw [List.mem_singleton] at m
      exact absurd ((nI_eq (by omega) (by omega)).mp m) hne
  rw [nI_clamp (by omega), nI_clamp (by omega)]
  refine hp _ _ _ _ ⟨?_, ?_, ?_, ?_, ?_⟩
  · rw [nI_1, List.length_append]; rfl
  · intro k hk
    rw [List.length_append] at hk
    by_cases e : k = L.length
    · subst e; rw [pk_us, nd_last]
    · simp at hk
      rw [pk_un e, h1 k (by omega), nd_app (by omega)]
  · intro i m hi
    by_cases e : i = j
    · subst e; rw [pk_us]; rfl
    · rw [pk_un e]; exact h2 i (hin i hi m e) hi
  · intro i m hi
    by_cases e : i = j
    · subst e; rw [pk_us]; rfl
    · rw [pk_un e]; exact h3 i (hin i hi m e) hi
  · intro i m hi
    have e : i ≠ j := fun e => m (List.mem_append_right _ (by rw [e]; exact List.mem_singleton.mpr rfl))
    rw [pk_un e]; exact h4 i (fun m2 => m (List.mem_append_left _ m2)) hi
/-- findSets, once the places of each letter are known -/
theorem q_find63 {D : Md} (hD : DOk D) {pl : Nat → Int32} (hpl : ∀ c, c < 6 → pl c = D.plc c) {L : List Int32} {i : Nat} (hB : BI D (6 * i) L) (hi : i < L.length) {post K : _} {fc : Int32} {gr fo be : Nat → Int32} (h : CS D L fc gr fo be)
    (hK : ∀ fc' gr' fo' be', CS D (rowN D (nd L i) L 6) fc' gr' fo' be' → K (nI (i + 1)) fc' pl gr' fo' be') :
    ∃ k, p_MachineBuilder_findSets_63 (nI D.P) D.fi D.la D.fo D.ru post K k (nI i) 0 fc pl gr fo be := by
  have hle := hB.ok.le
  refine pk_loop (fun n c (s : Int32 × (Nat → Int32) × (Nat → Int32) × (Nat → Int32)) => p_MachineBuilder_findSets_63 (nI D.P) D.fi D.la D.fo D.ru post K n (nI i) (nI c) s.1 pl s.2.1 s.2.2.1 s.2.2.2) (fun c s => CS D (rowN D (nd L i) L c) s.1 s.2.1 s.2.2.1 s.2.2.2) 6 0 (fc, gr, fo, be) (Nat.zero_le _) h ?_ ?_
  · intro n s hI
    refine ⟨fun _ => ?_, fun z => absurd (by decide) z⟩
    show K (nI i + 1) _ _ _ _ _
    rw [nI_1]
    exact hK _ _ _ _ hI
  · rintro n c ⟨fc, gr, fo, be⟩ hc hI hk
    dsimp only at hI hk ⊢
    have hR := hB.row hD.hP hi c (by omega)
    have hlr := @row_len D (nd L i) L c
    have hle2 := hR.ok.le
    obtain ⟨j, hj, ej⟩ := S9_nI (hB.ok.s9 _ (nd_mem hi))
    have hjm : nI j ∈ rowN D (nd L i) L c := by
      rw [← ej]
      have := @nd_mem (rowN D (nd L i) L c) i (by omega)
      rw [row_nd hi] at this
      exact this
    have e2 : be j &&& pl c = D.nx (nd L i) c := by
      rw [hI.cbe j hjm hj, hpl c hc, ej]; rfl
    refine ⟨fun z => absurd z (nI_ge (b := 6) hc (by omega)), fun _ => ⟨vp_in_nI (by omega) (by omega), ?_⟩⟩
    rw [nI_clamp (by omega), nI_clamp (n := c) (by omega), hI.cfo i (by omega), row_nd hi, ej, nI_clamp (by omega), e2, nI_1, ← ej]
    refine ⟨by rw [ej]; exact vp_in_nI hj (by omega), vp_in_nI hc (by omega), ?_⟩
    have h9 : S9 (D.nx (nd L i) c) := Md.nx_S9 hD.hP _ _
    obtain ⟨q, hq, eq⟩ := S9_nI h9
    have hsame : D.nx (nd L i) c ∈ rowN D (nd L i) L c → CS D (rowN D (nd L i) L (c + 1)) fc gr fo be := fun m => by
      show CS D (addN _ _) _ _ _ _
      unfold addN
      rw [if_pos m]
      exact hI
    refine ⟨fun z => hk (fc, gr, fo, be) (hsame ?_), fun z => ⟨?_, ?_, ?_⟩⟩
    · rw [z]; exact hR.ok.mem0
    · rw [eq]; exact vp_in_nI hq (by omega)
    · intro g
      refine hk (fc, gr, fo, be) (hsame ?_)
      apply Classical.byContradiction
      intro m
      rw [eq] at m
      rw [eq, nI_clamp (by omega), hI.cno q m hq] at g
      exact g rfl
    · intro g
      have m : D.nx (nd L i) c ∉ rowN D (nd L i) L c := fun m => by
        rw [eq] at m
        rw [eq, nI_clamp (by omega), hI.cgr q m hq] at g
        obtain ⟨r, hr, e, -⟩ := hD.win1 (nI q)
        rw [e] at g
        exact nI_nm1 (by omega) g
      refine q_meet hD hR.ok hI.cfc hI.cfo hI.cbe hI.cgr hI.cno h9 m (fun fc' fo' be' gr' hC => hk (fc', gr', fo', be') ?_)
      show CS D (addN _ _) _ _ _ _
      unfold addN
      rw [if_neg m]
      exact hC
theorem q_find46 {D : Md} (hD : DOk D) {pl : Nat → Int32} (hpl : ∀ c, c < 6 → pl c = D.plc c) {post : Int32 → (Nat → Int32) → (Nat → Int32) → (Nat → Int32) → (Nat → Int32) → Prop} : ∀ (n i : Nat) (L : List Int32) (fc : Int32) (gr fo be : Nat → Int32), 513 ≤ n + i → BI D (6 * i) L → CS D L fc gr fo be →
    (∀ fc' gr' fo' be', CS D (bfs D n i L) fc' gr' fo' be' → post fc' pl gr' fo' be') → p_MachineBuilder_findSets_46 (nI D.P) D.fi D.la D.fo D.ru post (n + 1) (nI i) fc pl gr fo be := by
  intro n
  induction n with
  | zero =>
    intro i L fc gr fo be hn hB
    have := hB.ok.le
    have := hB.lt
    omega
  | succ n ih =>
    intro i L fc gr fo be hn hB hC hp
    have hle := hB.ok.le
    have hlt := hB.lt
    unfold bfs at hp
    have hfc := hC.cfc
    subst hfc
    by_cases hi : i < L.length
    · rw [if_pos hi] at hp
      refine ⟨fun z => absurd z (nI_ge hi (by omega)), fun _ => ⟨fun z => absurd z (nI_ge (b := 512) (by omega) (by omega)), fun _ => ?_⟩⟩
      exact q_find63 hD hpl hB hi hC (fun fc' gr' fo' be' hC' => ih (i + 1) _ fc' gr' fo' be' (by omega) (hB.row hD.hP hi 6 (Nat.le_refl _)) hC' hp)
    · rw [if_neg hi] at hp
      exact ⟨fun _ => hp _ _ _ _ hC, fun z => absurd (nI_le (by omega) (by omega)) z⟩
theorem q_findSets {D : Md} (hD : DOk D) {fc : Int32} {pl gr fo be : Nat → Int32} {post : Int32 → (Nat → Int32) → (Nat → Int32) → (Nat → Int32) → (Nat → Int32) → Prop}
    (hp : ∀ fc' pl' gr' fo' be', (∀ c, c < 6 → pl' c = D.plc c) → CS D D.sets fc' gr' fo' be' → post fc' pl' gr' fo' be') : p_MachineBuilder_findSets fc (nI D.P) D.fi D.la D.lt pl gr fo D.fo be D.ru post := by
  refine pk_loop (fun n c pl => p_MachineBuilder_findSets_2 (nI D.P) D.fi D.la D.lt D.fo D.ru post n (nI c) fc pl gr fo be) (fun c pl => ∀ k, k < c → pl k = D.plc k) 6 0 pl (Nat.zero_le _) (fun k hk => absurd hk (by omega)) ?_ ?_
  · intro n pl hpl
    refine ⟨fun _ => ?_, fun z => absurd (by decide) z⟩
    refine q_Arrays_fill (by omega) (fun g hg _ => ?_)
    have hz : (0 : Int32) ∈ ([0] : List Int32) := List.mem_singleton.mpr rfl
    refine ⟨vp_in_nI (n := 0) (by omega) (by omega), q_placesBehind hD.hP ⟨vp_in_nI (n := 0) (by omega) (by omega), q_winnerOfM hD.hP ⟨vp_in_nI (n := 0) (by omega) (by omega), ?_⟩⟩⟩
    have c0 : (0 : Int32).toNatClampNeg = 0 := by decide
    rw [c0]
    have hin : ∀ j, nI j ∈ ([0] : List Int32) → j < 512 → j = 0 := fun j m hj => by
      rw [List.mem_singleton, ← nI_0] at m
      exact (nI_eq (by omega) (by omega)).mp m
    refine ⟨514, ?_⟩
    refine q_find46 hD hpl 513 0 [0] _ _ _ _ (by omega) BI.one ⟨?_, ?_, ?_, ?_, ?_⟩ (fun fc' gr' fo' be' hC => hp _ _ _ _ _ hpl (by rw [D.sets_eq]; exact hC))
    · decide
    · intro k hk
      simp at hk
      subst hk
      rw [pk_us]; rfl
    · intro j m hj
      rw [hin j m hj, pk_us]; rfl
    · intro j m hj
      rw [hin j m hj, pk_us]; rfl
    · intro j m hj
      have : j ≠ 0 := fun e => m (by rw [e]; exact hz)
      rw [pk_un this]; exact hg j hj
  · intro n c pl hc hI hk
    refine ⟨fun z => absurd z (nI_ge (b := 6) hc (by omega)), fun _ => q_placesOf hD.hP hc ⟨vp_in_nI hc (by omega), ?_⟩⟩
    rw [nI_clamp (by omega), nI_1]
    refine hk _ (fun k hk => ?_)
    by_cases e : k = c
    · subst e; rw [pk_us]; rfl
    · rw [pk_un e]; exact hI k (by omega)
