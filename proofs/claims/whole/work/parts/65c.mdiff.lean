/-! The reference: differ, differing; and that both sides mean the same word -/
def trn (A : Auto) (k c : Nat) : Option Nat := if A.to k c = 0 then none else some (A.to k c)
def wnp (A : Auto) (k : Nat) : Prop := A.wn k ≠ -1
def e14 : Option Nat → Nat
  | none => 514
  | some k => k
def d14 (x : Nat) : Option Nat := if x = 514 then none else some x
def cp (o1 o2 : Option Nat) : Nat := 515 * e14 o1 + e14 o2
theorem d14_e {n : Nat} (hn : n ≤ 512) {o : Option Nat} (h : oin n o) : d14 (e14 o) = o ∧ e14 o ≤ 514 := by
  cases o with
  | none => exact ⟨if_pos rfl, Nat.le_refl _⟩
  | some k =>
    have hk : k < n := h
    exact ⟨if_neg (show ¬ k = 514 by omega), show k ≤ 514 by omega⟩
theorem cp_d {n m : Nat} (hn : n ≤ 512) (hm : m ≤ 512) {o1 o2 : Option Nat} (h1 : oin n o1) (h2 : oin m o2) : d14 (cp o1 o2 / 515) = o1 ∧ d14 (cp o1 o2 % 515) = o2 ∧ cp o1 o2 / 515 = e14 o1 ∧ cp o1 o2 % 515 = e14 o2 ∧ cp o1 o2 < 265225 := by
  obtain ⟨a1, a2⟩ := d14_e hn h1
  obtain ⟨b1, b2⟩ := d14_e hm h2
  have e1 : cp o1 o2 / 515 = e14 o1 := by unfold cp; omega
  have e2 : cp o1 o2 % 515 = e14 o2 := by unfold cp; omega
  refine ⟨by rw [e1, a1], by rw [e2, b1], e1, e2, by unfold cp; omega⟩
theorem trn_oin {A : Auto} (hA : A.Ok) {o : Option Nat} (h : oin A.N o) {c : Nat} (hc : c < 6) : oin A.N (mst (trn A) o c) := by
  cases o with
  | none => exact trivial
  | some k =>
    show oin A.N (trn A k c)
    unfold trn
    split
    · exact trivial
    · exact hA.to k c h hc
theorem trn_oinr {A : Auto} (hA : A.Ok) : ∀ (w : List Nat) (o : Option Nat), oin A.N o → W6 w → oin A.N (mrun (trn A) o w) := by
  intro w
  induction w with
  | nil => intro o h _; exact h
  | cons c w ih => intro o h hw; exact ih _ (trn_oin hA h (hw c (List.mem_cons_self))) (fun d hd => hw d (List.mem_cons_of_mem _ hd))
def folp (A B : Auto) (p c : Nat) : Nat := cp (mst (trn A) (d14 (p / 515)) c) (mst (trn B) (d14 (p % 515)) c)
def prtp (A B : Auto) (p : Nat) : Prop := ¬ (mw (wnp A) (d14 (p / 515)) ↔ mw (wnp B) (d14 (p % 515)))
def Vp (A B : Auto) (p : Nat) : Prop := ∃ o1 o2, oin A.N o1 ∧ oin B.N o2 ∧ p = cp o1 o2
theorem fol_cp {A B : Auto} (hA : A.Ok) (hB : B.Ok) {o1 o2 : Option Nat} (h1 : oin A.N o1) (h2 : oin B.N o2) (c : Nat) : folp A B (cp o1 o2) c = cp (mst (trn A) o1 c) (mst (trn B) o2 c) := by
  obtain ⟨a, b, -⟩ := cp_d hA.le hB.le h1 h2
  unfold folp
  rw [a, b]
theorem fold_cp {A B : Auto} (hA : A.Ok) (hB : B.Ok) : ∀ (w : List Nat) (o1 o2 : Option Nat), oin A.N o1 → oin B.N o2 → W6 w → w.foldl (folp A B) (cp o1 o2) = cp (mrun (trn A) o1 w) (mrun (trn B) o2 w) := by
  intro w
  induction w with
  | nil => intro o1 o2 _ _ _; rfl
  | cons c w ih =>
    intro o1 o2 h1 h2 hw
    have hc := hw c (List.mem_cons_self)
    show w.foldl (folp A B) (folp A B (cp o1 o2) c) = _
    rw [fol_cp hA hB h1 h2]
    exact ih _ _ (trn_oin hA h1 hc) (trn_oin hB h2 hc) (fun d hd => hw d (List.mem_cons_of_mem _ hd))
theorem prt_cp {A B : Auto} (hA : A.Ok) (hB : B.Ok) {o1 o2 : Option Nat} (h1 : oin A.N o1) (h2 : oin B.N o2) {w : List Nat} (hw : W6 w) : prtp A B (w.foldl (folp A B) (cp o1 o2)) ↔ tellq (trn A) (wnp A) (trn B) (wnp B) o1 o2 w := by
  rw [fold_cp hA hB w o1 o2 h1 h2 hw]
  obtain ⟨a, b, -⟩ := cp_d hA.le hB.le (trn_oinr hA w o1 h1 hw) (trn_oinr hB w o2 h2 hw)
  unfold prtp tellq
  rw [a, b]
theorem dv515 {p : Nat} (h : p < 2 ^ 31) : nI p / 515 = nI (p / 515) := pk_div (d := 515) h (by omega) (by omega)
theorem md515 {p : Nat} (h : p < 2 ^ 31) : nI p - nI p / 515 * 515 = nI (p % 515) := pk_rem (d := 515) h (by omega) (by omega)
theorem q_M_follow {Da Db : Md} (hDa : DOk Da) (hDb : DOk Db) {a b R : Nat} {many lt behind mo fs ls : Nat → Int32} (Ha : RefMd Da a R many lt behind mo fs ls) (Hb : RefMd Db b R many lt behind mo fs ls) {no se st : Nat → Int32} (Sa : RS Da a no se st) (Sb : RS Db b no se st) {o1 o2 : Option Nat} (h1 : oin Da.au.N o1) (h2 : oin Db.au.N o2) {c : Nat} (hc : c < 6) {post : Int32 → Prop} (hp : post (nI (cp (mst (trn Da.au) o1 c) (mst (trn Db.au) o2 c)))) : p_M_follow st (nI a) (nI b) (nI (cp o1 o2)) (nI c) post := by
  have hA := au_ok hDa
  have hB := au_ok hDb
  have la := hA.le
  have lb := hB.le
  obtain ⟨-, -, e1, e2, hlt⟩ := cp_d la lb h1 h2
  unfold p_M_follow
  rw [md515 (by omega), dv515 (by omega), e1, e2]
  have n514 : ∀ k, k < 514 → ¬ nI k = 514 := fun k hk z => by
    have := (nI_eq (b := 514) (by omega) (by omega)).mp z
    omega
  have f1 : ∀ x : Nat, (515 : Int32) * nI x + 514 = nI (515 * x + 514) := fun x => by rw [show (515 : Int32) = nI 515 from rfl, show (514 : Int32) = nI 514 from rfl, pk_mul, nI_add]
  have f2 : ∀ x y : Nat, (515 : Int32) * nI x + nI y = nI (515 * x + y) := fun x y => by rw [show (515 : Int32) = nI 515 from rfl, pk_mul, nI_add]
  have f3 : ∀ y : Nat, (515 : Int32) * 514 + nI y = nI (515 * 514 + y) := fun y => by rw [show (515 : Int32) = nI 515 from rfl, show (514 : Int32) = nI 514 from rfl, pk_mul, nI_add]
  have f4 : (515 : Int32) * 514 + 514 = nI (515 * 514 + 514) := by decide
  have g0 : ∀ {A : Auto} {k}, A.to k c = 0 → mst (trn A) (some k) c = none := fun z => if_pos z
  have g1 : ∀ {A : Auto} {k}, A.to k c ≠ 0 → mst (trn A) (some k) c = some (A.to k c) := fun z => if_neg z
  cases o1 with
  | none =>
    refine ⟨fun z => absurd rfl z, fun _ => ?_⟩
    cases o2 with
    | none =>
      refine ⟨fun z => absurd rfl z, fun _ => ?_⟩
      rw [f4]; exact hp
    | some y =>
      have hy : y < Db.au.N := h2
      refine ⟨fun _ => q_M_go hB Hb.hM Sb hy hc ?_, fun z => absurd z (n514 y (by omega))⟩
      by_cases zy : Db.au.to y c = 0
      · rw [gT_0 zy]
        rw [g0 zy] at hp
        exact ⟨fun z => absurd rfl z, fun _ => by rw [f4]; exact hp⟩
      · rw [gT_n zy]
        rw [g1 zy] at hp
        have := hB.to y c hy hc
        exact ⟨fun _ => by rw [f3]; exact hp, fun z => absurd z (nI_nm1 (by omega))⟩
  | some x =>
    have hx : x < Da.au.N := h1
    refine ⟨fun _ => q_M_go hA Ha.hM Sa hx hc ?_, fun z => absurd z (n514 x (by omega))⟩
    have tx := hA.to x c hx hc
    cases o2 with
    | none =>
      refine ⟨fun z => absurd rfl z, fun _ => ?_⟩
      by_cases zx : Da.au.to x c = 0
      · rw [gT_0 zx]
        rw [g0 zx] at hp
        exact ⟨fun z => absurd rfl z, fun _ => by rw [f4]; exact hp⟩
      · rw [gT_n zx]
        rw [g1 zx] at hp
        exact ⟨fun _ => by rw [f1]; exact hp, fun z => absurd z (nI_nm1 (by omega))⟩
    | some y =>
      have hy : y < Db.au.N := h2
      have ty := hB.to y c hy hc
      refine ⟨fun _ => q_M_go hB Hb.hM Sb hy hc ?_, fun z => absurd z (n514 y (by omega))⟩
      by_cases zx : Da.au.to x c = 0 <;> by_cases zy : Db.au.to y c = 0
      · rw [gT_0 zx, gT_0 zy]
        rw [g0 zx, g0 zy] at hp
        exact ⟨fun z => absurd rfl z, fun _ => ⟨fun z => absurd rfl z, fun _ => by rw [f4]; exact hp⟩⟩
      · rw [gT_0 zx, gT_n zy]
        rw [g0 zx, g1 zy] at hp
        exact ⟨fun z => absurd rfl z, fun _ => ⟨fun _ => by rw [f3]; exact hp, fun z => absurd z (nI_nm1 (by omega))⟩⟩
      · rw [gT_n zx, gT_0 zy]
        rw [g1 zx, g0 zy] at hp
        exact ⟨fun _ => ⟨fun z => absurd rfl z, fun _ => by rw [f1]; exact hp⟩, fun z => absurd z (nI_nm1 (by omega))⟩
      · rw [gT_n zx, gT_n zy]
        rw [g1 zx, g1 zy] at hp
        exact ⟨fun _ => ⟨fun _ => by rw [f2]; exact hp, fun z => absurd z (nI_nm1 (by omega))⟩, fun z => absurd z (nI_nm1 (by omega))⟩
theorem q_M_parts {Da Db : Md} (hDa : DOk Da) (hDb : DOk Db) {a b R : Nat} {many lt behind mo fs ls : Nat → Int32} (Ha : RefMd Da a R many lt behind mo fs ls) (Hb : RefMd Db b R many lt behind mo fs ls) {no se st : Nat → Int32} (Sa : RS Da a no se st) (Sb : RS Db b no se st) {o1 o2 : Option Nat} (h1 : oin Da.au.N o1) (h2 : oin Db.au.N o2) {post : Int32 → Prop} (p1 : ¬ (mw (wnp Da.au) o1 ↔ mw (wnp Db.au) o2) → post 1) (p0 : (mw (wnp Da.au) o1 ↔ mw (wnp Db.au) o2) → post 0) : p_M_parts (nI R) mo se ls (nI a) (nI b) (nI (cp o1 o2)) post := by
  have hA := au_ok hDa
  have hB := au_ok hDb
  have la := hA.le
  have lb := hB.le
  obtain ⟨-, -, e1, e2, hlt⟩ := cp_d la lb h1 h2
  unfold p_M_parts
  rw [md515 (by omega), dv515 (by omega), e1, e2]
  have n514 : ∀ k, k < 514 → ¬ nI k = 514 := fun k hk z => by
    have := (nI_eq (b := 514) (by omega) (by omega)).mp z
    omega
  cases o1 with
  | none =>
    refine ⟨fun _ => ?_, fun z => absurd rfl z⟩
    cases o2 with
    | none => exact ⟨fun _ => p0 (iff_of_false id id), fun z => absurd rfl z⟩
    | some y =>
      have hy : y < Db.au.N := h2
      refine ⟨fun z => absurd z (n514 y (by omega)), fun _ => q_M_winsN hDb Hb Sb hy ⟨fun z => p0 (iff_of_false id (fun q => q z)), fun z => p1 (fun q => q.mpr z)⟩⟩
  | some x =>
    have hx : x < Da.au.N := h1
    refine ⟨fun z => absurd z (n514 x (by omega)), fun _ => q_M_winsN hDa Ha Sa hx ⟨fun zx => ?_, fun zx => ?_⟩⟩
    · cases o2 with
      | none => exact ⟨fun _ => p0 ⟨fun q => q zx, False.elim⟩, fun z => absurd rfl z⟩
      | some y =>
        have hy : y < Db.au.N := h2
        refine ⟨fun z => absurd z (n514 y (by omega)), fun _ => q_M_winsN hDb Hb Sb hy ⟨fun z => p0 ⟨fun q => absurd zx q, fun q => absurd z q⟩, fun z => p1 (fun q => q.mpr z zx)⟩⟩
    · cases o2 with
      | none => exact ⟨fun _ => p1 (fun q => q.mp zx), fun z => absurd rfl z⟩
      | some y =>
        have hy : y < Db.au.N := h2
        refine ⟨fun z => absurd z (n514 y (by omega)), fun _ => q_M_winsN hDb Hb Sb hy ⟨fun z => p1 (fun q => q.mp zx z), fun z => p0 ⟨fun _ => z, fun _ => zx⟩⟩⟩
theorem q_M_farN {Da Db : Md} (hDa : DOk Da) (hDb : DOk Db) {a b R : Nat} {many lt behind mo fs ls : Nat → Int32} (Ha : RefMd Da a R many lt behind mo fs ls) (Hb : RefMd Db b R many lt behind mo fs ls) {no se st : Nat → Int32} (Sa : RS Da a no se st) (Sb : RS Db b no se st) {o1 o2 : Option Nat} (h1 : oin Da.au.N o1) (h2 : oin Db.au.N o2) {sn fr ah : Nat → Int32} {post : _} (hpost : ∀ r, FarS (folp Da.au Db.au) (prtp Da.au Db.au) (cp o1 o2) r → ∀ sn fr ah, post r sn fr ah) : p_M_far (nI R) sn fr ah mo se ls st (nI a) (nI b) (nI (cp o1 o2)) post := by
  have hA := au_ok hDa
  have hB := au_ok hDb
  refine q_M_far (V := Vp Da.au Db.au) ?_ ?_ ?_ ?_ ⟨o1, o2, h1, h2, rfl⟩ hpost
  · rintro p c ⟨q1, q2, a1, a2, rfl⟩ hc
    exact ⟨_, _, trn_oin hA a1 hc, trn_oin hB a2 hc, fol_cp hA hB a1 a2 c⟩
  · rintro p ⟨q1, q2, a1, a2, rfl⟩
    exact (cp_d hA.le hB.le a1 a2).2.2.2.2
  · rintro p c post ⟨q1, q2, a1, a2, rfl⟩ hc hp
    rw [fol_cp hA hB a1 a2] at hp
    exact q_M_follow hDa hDb Ha Hb Sa Sb a1 a2 hc hp
  · rintro p post ⟨q1, q2, a1, a2, rfl⟩ p1 p0
    obtain ⟨e1, e2, -⟩ := cp_d hA.le hB.le a1 a2
    unfold prtp at p1 p0
    rw [e1, e2] at p1 p0
    exact q_M_parts hDa hDb Ha Hb Sa Sb a1 a2 p1 (fun z => p0 (fun q => q z))
/-! states and nodes run alike -/
theorem mst_map {A : Auto} (hA : A.Ok) {g s : Nat → Nat} {n : Nat} (hM : Mini A g n s) {o : Option Nat} (h : oin A.N o) {c : Nat} (hc : c < 6) : mst (trq A g s) (o.map g) c = (mst (trn A) o c).map g := by
  cases o with
  | none => rfl
  | some k =>
    have hk : k < A.N := h
    obtain ⟨h1, h2, h3⟩ := hM.smp hk
    show trq A g s (g k) c = (trn A k c).map g
    have q := hM.step hA h2 hk hc h3
    have hle := hA.le
    have hn := hM.can.le
    have l1 := hM.can.2 _ (hA.to _ c h2 hc)
    have l2 := hM.can.2 _ (hA.to k c hk hc)
    rw [gA_iff (by omega) (by omega)] at q
    unfold trq trn
    rcases q with ⟨a, b⟩ | ⟨a, b, e⟩
    · rw [if_pos a, if_pos b]; rfl
    · rw [if_neg a, if_neg b, e]; rfl
theorem mrun_map {A : Auto} (hA : A.Ok) {g s : Nat → Nat} {n : Nat} (hM : Mini A g n s) : ∀ (w : List Nat) (o : Option Nat), oin A.N o → W6 w → mrun (trq A g s) (o.map g) w = (mrun (trn A) o w).map g := by
  intro w
  induction w with
  | nil => intro o _ _; rfl
  | cons c w ih =>
    intro o h hw
    have hc := hw c (List.mem_cons_self)
    show mrun (trq A g s) (mst (trq A g s) (o.map g) c) w = _
    rw [mst_map hA hM h hc]
    exact ih _ (trn_oin hA h hc) (fun d hd => hw d (List.mem_cons_of_mem _ hd))
theorem mw_map {A : Auto} (hA : A.Ok) {g s : Nat → Nat} {n : Nat} (hM : Mini A g n s) {o : Option Nat} (h : oin A.N o) : mw (wq A s) (o.map g) ↔ mw (wnp A) o := by
  cases o with
  | none => exact Iff.rfl
  | some k =>
    have hk : k < A.N := h
    obtain ⟨h1, h2, h3⟩ := hM.smp hk
    show wq A s (g k) ↔ wnp A k
    unfold wq wnp
    rw [hM.wn h2 hk h3]
theorem mw_run {A : Auto} (hA : A.Ok) {g s : Nat → Nat} {n : Nat} (hM : Mini A g n s) {w : List Nat} (hw : W6 w) : mw (wq A s) (mrun (trq A g s) (some 0) w) ↔ mw (wnp A) (mrun (trn A) (some 0) w) := by
  have h0 : (some 0 : Option Nat) = (some 0 : Option Nat).map g := by
    show some 0 = some (g 0)
    rw [hM.can.zero hA.pos]
  have := mrun_map hA hM w (some 0) hA.pos hw
  rw [← h0] at this
  rw [this]
  exact mw_map hA hM (trn_oinr hA w _ hA.pos hw)
theorem ext_lt : ∀ (v v' : List Nat) (t t' : Nat), t < t' → v.length = v'.length → W6 v → v.foldl (fun t c => 6 * t + c + 1) t < v'.foldl (fun t c => 6 * t + c + 1) t' := by
  intro v
  induction v with
  | nil =>
    intro v' t t' h hl _
    have : v' = [] := List.length_eq_zero_iff.mp hl.symm
    subst this; exact h
  | cons c v ih =>
    intro v' t t' h hl hv
    cases v' with
    | nil => simp at hl
    | cons c' v' =>
      have hc := hv c (List.mem_cons_self)
      exact ih v' _ _ (show 6 * t + c + 1 < 6 * t' + c' + 1 by omega) (by simpa using hl) (fun d hd => hv d (List.mem_cons_of_mem _ hd))
