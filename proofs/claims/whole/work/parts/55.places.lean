/-! The places of a mode: what program and reference work out of them -/
def Md : Type := (Nat) × (Nat → Int32) × (Nat → Int32) × (Nat → Int32) × (Int32) × (Int32)
def Md.mk (P : Nat) (lt : Nat → Int32) (fo : Nat → Int32) (ru : Nat → Int32) (fi : Int32) (la : Int32) : Md := (P, lt, fo, ru, fi, la)
def Md.P : Md → Nat := fun (x : (Nat) × (Nat → Int32) × (Nat → Int32) × (Nat → Int32) × (Int32) × (Int32)) => x.1
def Md.lt : Md → (Nat → Int32) := fun (x : (Nat) × (Nat → Int32) × (Nat → Int32) × (Nat → Int32) × (Int32) × (Int32)) => x.2.1
def Md.fo : Md → (Nat → Int32) := fun (x : (Nat) × (Nat → Int32) × (Nat → Int32) × (Nat → Int32) × (Int32) × (Int32)) => x.2.2.1
def Md.ru : Md → (Nat → Int32) := fun (x : (Nat) × (Nat → Int32) × (Nat → Int32) × (Nat → Int32) × (Int32) × (Int32)) => x.2.2.2.1
def Md.fi : Md → Int32 := fun (x : (Nat) × (Nat → Int32) × (Nat → Int32) × (Nat → Int32) × (Int32) × (Int32)) => x.2.2.2.2.1
def Md.la : Md → Int32 := fun (x : (Nat) × (Nat → Int32) × (Nat → Int32) × (Nat → Int32) × (Int32) × (Int32)) => x.2.2.2.2.2

def plcF (lt : Nat → Int32) (c : Nat) : Nat → Int32
  | 0 => 0
  | n + 1 => if tb (lt n) c then plcF lt c n ||| ((1 : Int32) <<< (nI n &&& 31)) else plcF lt c n
def orF (fo : Nat → Int32) (s : Int32) : Nat → Int32
  | 0 => 0
  | n + 1 => if tb s n then orF fo s n ||| fo n else orF fo s n
def winF (ru : Nat → Int32) (x : Int32) : Nat → Nat → Int32
  | 0, _ => -1
  | d + 1, i => if tb x i then ru i else winF ru x d (i + 1)
def Md.plc (D : Md) (c : Nat) : Int32 := plcF D.lt c D.P
def Md.bhd (D : Md) (s : Int32) : Int32 := if s = 0 then D.fi else orF D.fo s D.P
def Md.nx (D : Md) (s : Int32) (c : Nat) : Int32 := D.bhd s &&& D.plc c
def Md.win (D : Md) (s : Int32) : Int32 := winF D.ru (s &&& D.la) D.P 0
theorem plcF_S {lt : Nat → Int32} {c : Nat} : ∀ n, n ≤ 9 → ∀ p, n ≤ p → tb (plcF lt c n) p = false := by
  intro n
  induction n with
  | zero => intro _ p _; exact tb_0 p
  | succ n ih =>
    intro hn p hp
    unfold plcF
    split
    · rw [tb_or, ih (by omega) p (by omega), tb_bit (by omega)]
      simp; omega
    · exact ih (by omega) p (by omega)
theorem Md.nx_S9 {D : Md} (h : D.P ≤ 9) (s : Int32) (c : Nat) : S9 (D.nx s c) := S9_and (fun p hp => plcF_S D.P h p (by omega))
theorem winF_0 {ru : Nat → Int32} : ∀ d i, winF ru 0 d i = -1 := by
  intro d
  induction d with
  | zero => intro i; rfl
  | succ d ih => intro i; unfold winF; rw [tb_0]; exact ih _
theorem and_0 (x : Int32) : (0 : Int32) &&& x = 0 := tb_ext fun p _ => by rw [tb_and, tb_0]; rfl
theorem Md.win_0 (D : Md) : D.win 0 = -1 := by
  unfold Md.win
  rw [and_0]
  exact winF_0 _ _
theorem q_holds {x : Int32} {p : Nat} (hp : p < 32) {post : Int32 → Prop} (h0 : tb x p = false → post 0) (h1 : tb x p = true → post 1) : p_TB_holds x (nI p) post := by
  refine ⟨fun a => h0 ((tb_t0 x hp).mp a), fun a => h1 ?_⟩
  rw [tb_t0 x hp] at a
  simpa using a
theorem q_placesOf {P c : Nat} (hP : P ≤ 9) (hc : c < 6) {lt : Nat → Int32} {post : Int32 → Prop} (h : post (plcF lt c P)) : p_Mode_placesOf (nI P) lt (nI c) post := by
  refine pk_loop (fun n i s => p_Mode_placesOf_4 (nI P) lt (nI c) post n s (nI i)) (fun i s => s = plcF lt c i) P 0 0 (Nat.zero_le _) rfl (fun n s hI => ⟨fun _ => hI ▸ h, fun z => absurd (nI_le (Nat.le_refl _) (by omega)) z⟩) ?_
  intro n i s hi hI hk
  refine ⟨fun z => absurd z (nI_ge hi (by omega)), fun _ => ⟨vp_in_nI (by omega) (by omega), ?_⟩⟩
  rw [nI_clamp (by omega), nI_1]
  refine q_holds (by omega) (fun e => ⟨fun _ => hk s ?_, fun z => absurd rfl z⟩) (fun e => ⟨fun z => absurd z (by decide), fun _ => hk _ ?_⟩)
  · rw [hI]; conv => rhs; unfold plcF
    rw [if_neg (by simp [e])]
  · rw [hI]; conv => rhs; unfold plcF
    rw [if_pos e]
theorem q_placesBehind {P : Nat} (hP : P ≤ 9) {fo : Nat → Int32} {fi s : Int32} {post : Int32 → Prop} (h : post (if s = 0 then fi else orF fo s P)) : p_Mode_placesBehind (nI P) fi fo s post := by
  refine ⟨fun z => ?_, fun z => by rw [if_pos z] at h; exact h⟩
  rw [if_neg z] at h
  refine pk_loop (fun n i a => p_Mode_placesBehind_13 (nI P) fo s post n a (nI i)) (fun i a => a = orF fo s i) P 0 0 (Nat.zero_le _) rfl (fun n a hI => ⟨fun _ => hI ▸ h, fun z => absurd (nI_le (Nat.le_refl _) (by omega)) z⟩) ?_
  intro n i a hi hI hk
  refine ⟨fun z => absurd z (nI_ge hi (by omega)), fun _ => ?_⟩
  rw [nI_clamp (by omega), nI_1]
  refine q_holds (by omega) (fun e => ⟨fun _ => hk a ?_, fun z => absurd rfl z⟩) (fun e => ⟨fun z => absurd z (by decide), fun _ => ⟨vp_in_nI (by omega) (by omega), hk _ ?_⟩⟩)
  · rw [hI]; conv => rhs; unfold orF
    rw [if_neg (by simp [e])]
  · rw [hI]; conv => rhs; unfold orF
    rw [if_pos e]
theorem q_winnerOfM {P : Nat} (hP : P ≤ 9) {ru : Nat → Int32} {la s : Int32} {post : Int32 → Prop} (h : post (winF ru (s &&& la) P 0)) : p_Mode_winnerOf (nI P) la ru s post := by
  have key : ∀ (d i : Nat), i + d = P → post (winF ru (s &&& la) d i) → ∃ k, p_Mode_winnerOf_2 (nI P) la ru s post k (nI i) := by
    intro d
    induction d with
    | zero =>
      intro i hi h
      exact ⟨1, fun _ => h, fun z => absurd (nI_le (by omega) (by omega)) z⟩
    | succ d ih =>
      intro i hi h
      unfold winF at h
      cases e : tb (s &&& la) i
      · rw [if_neg (by simp [e])] at h
        obtain ⟨k, hk⟩ := ih (i + 1) (by omega) h
        refine ⟨k + 1, fun z => absurd z (nI_ge (by omega) (by omega)), fun _ => ?_⟩
        rw [nI_1]
        exact q_holds (by omega) (fun _ => ⟨fun _ => hk, fun z => absurd rfl z⟩) (fun e2 => by rw [e] at e2; cases e2)
      · rw [if_pos e] at h
        refine ⟨1, fun z => absurd z (nI_ge (by omega) (by omega)), fun _ => ?_⟩
        refine q_holds (by omega) (fun e2 => by rw [e] at e2; cases e2) (fun _ => ⟨fun z => absurd z (by decide), fun _ => ⟨vp_in_nI (by omega) (by omega), ?_⟩⟩)
        rw [nI_clamp (by omega)]
        exact h
  exact key P 0 (by omega) h
/-! the reference's reading of the same places -/
theorem ix9 (a b : Nat) : (9 : Int32) * nI a + nI b = nI (9 * a + b) := by
  rw [show (9 : Int32) = nI 9 from rfl, pk_mul, nI_add]
theorem ix514 (a b : Nat) : (514 : Int32) * nI a + nI b = nI (514 * a + b) := by
  rw [show (514 : Int32) = nI 514 from rfl, pk_mul, nI_add]
theorem ix6 (a b : Nat) : (6 : Int32) * nI a + nI b = nI (6 * a + b) := by
  rw [show (6 : Int32) = nI 6 from rfl, pk_mul, nI_add]
def frF (mo fs : Nat → Int32) (M : Nat) : Nat → Int32
  | 0 => 0
  | n + 1 => if mo n = nI M then frF mo fs M n ||| fs n else frF mo fs M n
def wlF (mo ls : Nat → Int32) (M : Nat) (s : Int32) : Nat → Nat → Int32
  | 0, _ => -1
  | d + 1, i => if mo i = nI M ∧ ¬ s &&& ls i = 0 then nI i else wlF mo ls M s d (i + 1)
/-- the reference's tables hold the mode's places -/
def RefMd (D : Md) (M R : Nat) (many let_ behind mo fs ls : Nat → Int32) : Prop :=
  (D.P ≤ 9) ∧
  (M < 3) ∧
  (R ≤ 16) ∧
  (many M = nI D.P) ∧
  (∀ p, p < D.P → let_ (9 * M + p) = D.lt p) ∧
  (∀ p, p < D.P → behind (9 * M + p) = D.fo p) ∧
  (frF mo fs M R = D.fi) ∧
  (∀ s, S9 s → wlF mo ls M s R 0 = D.win s)
theorem RefMd.hP {D : Md} {M R : Nat} {many let_ behind mo fs ls : Nat → Int32} (h_ : RefMd D M R many let_ behind mo fs ls) : D.P ≤ 9 := h_.1
theorem RefMd.hM {D : Md} {M R : Nat} {many let_ behind mo fs ls : Nat → Int32} (h_ : RefMd D M R many let_ behind mo fs ls) : M < 3 := h_.2.1
theorem RefMd.hR {D : Md} {M R : Nat} {many let_ behind mo fs ls : Nat → Int32} (h_ : RefMd D M R many let_ behind mo fs ls) : R ≤ 16 := h_.2.2.1
theorem RefMd.many {D : Md} {M R : Nat} {many let_ behind mo fs ls : Nat → Int32} (h_ : RefMd D M R many let_ behind mo fs ls) : many M = nI D.P := h_.2.2.2.1
theorem RefMd.lt {D : Md} {M R : Nat} {many let_ behind mo fs ls : Nat → Int32} (h_ : RefMd D M R many let_ behind mo fs ls) : ∀ p, p < D.P → let_ (9 * M + p) = D.lt p := h_.2.2.2.2.1
theorem RefMd.fo {D : Md} {M R : Nat} {many let_ behind mo fs ls : Nat → Int32} (h_ : RefMd D M R many let_ behind mo fs ls) : ∀ p, p < D.P → behind (9 * M + p) = D.fo p := h_.2.2.2.2.2.1
theorem RefMd.fi {D : Md} {M R : Nat} {many let_ behind mo fs ls : Nat → Int32} (h_ : RefMd D M R many let_ behind mo fs ls) : frF mo fs M R = D.fi := h_.2.2.2.2.2.2.1
theorem RefMd.win {D : Md} {M R : Nat} {many let_ behind mo fs ls : Nat → Int32} (h_ : RefMd D M R many let_ behind mo fs ls) : ∀ s, S9 s → wlF mo ls M s R 0 = D.win s := h_.2.2.2.2.2.2.2

theorem reach_eq {lt : Nat → Int32} {c : Nat} {x : Int32} : ∀ n, n ≤ 9 → plcF (fun p => if tb x p then lt p else 0) c n = x &&& plcF lt c n := by
  intro n
  induction n with
  | zero => intro _; exact (tb_ext fun p _ => by show _ = tb (x &&& 0) p; rw [tb_and, tb_0]; simp [plcF, tb_0])
  | succ n ih =>
    intro hn
    unfold plcF
    rw [ih (by omega)]
    apply tb_ext
    intro p hp
    cases e1 : tb x n <;> cases e2 : tb (lt n) c <;> simp only [e1, e2, tb_0, if_true, Bool.false_eq_true, if_false, tb_and, tb_or]
    · rw [tb_bit (by omega)]
      by_cases q : p = n
      · subst q; simp [e1]
      · simp [q]
    · rw [tb_bit (by omega)]
      by_cases q : p = n
      · subst q; simp [e1]
      · simp [q]
theorem q_M_reach {D : Md} {M R : Nat} {many lt behind mo fs ls : Nat → Int32} (H : RefMd D M R many lt behind mo fs ls) {x : Int32} {c : Nat} (hc : c < 6) {post : Int32 → Prop} (h : post (x &&& D.plc c)) : p_M_reach many lt (nI M) x (nI c) post := by
  have hP := H.hP
  have hM := H.hM
  have hL : ∀ n, n ≤ D.P → plcF (fun p => if tb x p then D.lt p else 0) c n = x &&& plcF D.lt c n := fun n hn => reach_eq n (by omega)
  refine pk_loop (fun n i s => p_M_reach_6 many lt (nI M) x (nI c) post n s (nI i)) (fun i s => s = plcF (fun p => if tb x p then D.lt p else 0) c i) D.P 0 0 (Nat.zero_le _) rfl ?_ ?_
  · intro n s hI
    refine ⟨vp_in_nI (by omega) (by omega), ?_⟩
    rw [nI_clamp (by omega), H.many]
    refine ⟨fun _ => ?_, fun z => absurd (nI_le (Nat.le_refl _) (by omega)) z⟩
    rw [hI, hL _ (Nat.le_refl _)]; exact h
  · intro n i s hi hI hk
    refine ⟨vp_in_nI (by omega) (by omega), ?_⟩
    rw [nI_clamp (by omega), H.many, ix9, nI_clamp (by omega), H.lt i hi, nI_1]
    refine ⟨fun z => absurd z (nI_ge hi (by omega)), fun _ => ⟨fun a => hk s ?_, fun a => ⟨vp_in_nI (by omega) (by omega), fun b => hk s ?_, fun b => hk _ ?_⟩⟩⟩
    · rw [tb_t1 x (by omega)] at a
      rw [hI]; conv => rhs; unfold plcF
      rw [if_neg]
      simp [a, tb_0]
    · rw [tb_t1 x (by omega)] at a
      rw [tb_t1 _ (by omega)] at b
      rw [hI]; conv => rhs; unfold plcF
      rw [if_neg]
      simp [a, b]
    · rw [tb_t1 x (by omega)] at a
      rw [tb_t1 _ (by omega)] at b
      rw [hI]; conv => rhs; unfold plcF
      rw [if_pos]
      simp [a, b]
theorem q_M_may0 {D : Md} {M R : Nat} {many lt behind mo fs ls set : Nat → Int32} (H : RefMd D M R many lt behind mo fs ls) {post : Int32 → Prop} (h : post D.fi) : p_M_may (nI R) mo fs many set behind (nI M) 0 post := by
  have hR := H.hR
  refine ⟨fun z => absurd rfl z, fun _ => ?_⟩
  refine pk_loop (fun n i s => p_M_may_9 (nI R) mo fs (nI M) post n s (nI i)) (fun i s => s = frF mo fs M i) R 0 0 (Nat.zero_le _) rfl ?_ ?_
  · intro n s hI
    refine ⟨fun _ => ?_, fun z => absurd (nI_le (Nat.le_refl _) (by omega)) z⟩
    rw [hI, H.fi]; exact h
  · intro n i s hi hI hk
    refine ⟨fun z => absurd z (nI_ge hi (by omega)), fun _ => ⟨vp_in_nI (by omega) (by omega), ?_⟩⟩
    rw [nI_clamp (by omega), nI_1]
    refine ⟨fun a => hk _ ?_, fun a => ⟨vp_in_nI (by omega) (by omega), hk _ ?_⟩⟩
    · rw [hI]; conv => rhs; unfold frF
      rw [if_neg a]
      exact tb_ext fun p _ => by rw [tb_or, tb_0, Bool.or_false]
    · rw [hI]; conv => rhs; unfold frF
      rw [if_pos a]
theorem q_M_may {D : Md} {M R : Nat} {many lt behind mo fs ls set : Nat → Int32} (H : RefMd D M R many lt behind mo fs ls) {k : Nat} (hk0 : 0 < k) (hk : k < 514) {s : Int32} (hs : set (514 * M + k) = s) (h0 : s ≠ 0) {post : Int32 → Prop} (h : post (D.bhd s)) : p_M_may (nI R) mo fs many set behind (nI M) (nI k) post := by
  have hP := H.hP
  have hM := H.hM
  refine ⟨fun _ => ?_, fun z => absurd z (nI_ne0 hk0 (by omega))⟩
  refine pk_loop (fun n i a => p_M_may_54 many set behind (nI M) (nI k) post n a (nI i)) (fun i a => a = orF D.fo s i) D.P 0 0 (Nat.zero_le _) rfl ?_ ?_
  · intro n a hI
    refine ⟨vp_in_nI (by omega) (by omega), ?_⟩
    rw [nI_clamp (by omega), H.many]
    refine ⟨fun _ => ?_, fun z => absurd (nI_le (Nat.le_refl _) (by omega)) z⟩
    unfold Md.bhd at h
    rw [if_neg h0] at h
    rw [hI]; exact h
  · intro n i a hi hI hk
    refine ⟨vp_in_nI (by omega) (by omega), ?_⟩
    rw [nI_clamp (by omega), H.many, ix514, ix9, nI_clamp (by omega), nI_clamp (by omega), hs, H.fo i hi, nI_1]
    refine ⟨fun z => absurd z (nI_ge hi (by omega)), fun _ => ⟨vp_in_nI (by omega) (by omega), fun b => hk a ?_, fun b => ⟨vp_in_nI (by omega) (by omega), hk _ ?_⟩⟩⟩
    · rw [tb_t1 _ (by omega)] at b
      rw [hI]; conv => rhs; unfold orF
      rw [if_neg b]
    · rw [tb_t1 _ (by omega)] at b
      rw [hI]; conv => rhs; unfold orF
      rw [if_pos b]
theorem q_M_wins {D : Md} {M R : Nat} {many lt behind mo fs ls set : Nat → Int32} (H : RefMd D M R many lt behind mo fs ls) {k : Nat} (hk : k < 514) {s : Int32} (hs : 0 < k → set (514 * M + k) = s) (h0 : k = 0 → s = 0) (h9 : S9 s) {post : Int32 → Prop} (h : post (D.win s)) : p_M_wins (nI R) mo set ls (nI M) (nI k) post := by
  have hM := H.hM
  have hR := H.hR
  rcases Nat.eq_zero_or_pos k with hk0 | hk0
  · subst hk0
    rw [h0 rfl, Md.win_0] at h
    refine ⟨1, fun _ => h, fun _ => ⟨fun _ => h, fun z => absurd (by decide) z⟩⟩
  have hs := hs hk0
  rw [← H.win s h9] at h
  have key : ∀ (d i : Nat), i + d = R → post (wlF mo ls M s d i) → ∃ n, p_M_wins_2 (nI R) mo set ls (nI M) (nI k) post n (nI i) := by
    intro d
    induction d with
    | zero =>
      intro i hi h
      exact ⟨1, fun _ => h, fun z => absurd (nI_le (by omega) (by omega)) z⟩
    | succ d ih =>
      intro i hi h
      unfold wlF at h
      by_cases e : mo i = nI M ∧ ¬ s &&& ls i = 0
      · rw [if_pos e] at h
        refine ⟨1, fun z => absurd z (nI_ge (by omega) (by omega)), fun _ => ⟨fun z => absurd z (nI_nle hk0 (by omega)), fun _ => ⟨vp_in_nI (by omega) (by omega), ?_⟩⟩⟩
        rw [nI_clamp (by omega), ix514, nI_clamp (by omega), hs]
        exact ⟨fun z => absurd e.1 z, fun _ => ⟨vp_in_nI (by omega) (by omega), vp_in_nI (by omega) (by omega), fun z => absurd z e.2, fun _ => h⟩⟩
      · rw [if_neg e] at h
        obtain ⟨n, hn⟩ := ih (i + 1) (by omega) h
        refine ⟨n + 1, fun z => absurd z (nI_ge (by omega) (by omega)), fun _ => ⟨fun z => absurd z (nI_nle hk0 (by omega)), fun _ => ⟨vp_in_nI (by omega) (by omega), ?_⟩⟩⟩
        rw [nI_clamp (by omega), ix514, nI_clamp (by omega), hs, nI_1]
        exact ⟨fun _ => hn, fun e1 => ⟨vp_in_nI (by omega) (by omega), vp_in_nI (by omega) (by omega), fun _ => hn, fun z => absurd ⟨e1, z⟩ e⟩⟩
  exact key R 0 (by omega) h
