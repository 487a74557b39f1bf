/-! rule, in both programs -/
theorem q_ModeAdd {D : Md} {S : TS} {R : Nat} (hR : R < 16) (h9 : D.P + S.q ≤ 9) {noW emW : Nat} {dp pl : Int32} {ch sq pt : Nat → Option Nat} {fo lt : Nat → Int32} {LP : List Nat} {PF : Nat → Pc} (h : CTx S noW emW dp pl ch sq pt fo lt LP PF) {post : Int32 → Int32 → Int32 → (Nat → Int32) → (Nat → Int32) → (Nat → Int32) → Prop}
    (hp : ∀ D', MdAdd D D' S R → post (nI D'.P) D'.fi D'.la D'.lt D'.fo D'.ru) : p_Mode_add (nI D.P) D.fi D.la pl ch lt D.lt fo D.fo D.ru LP PF (nI R) post := by
  obtain ⟨a, ea, ma, pa⟩ := h.ch 0 (Nat.zero_le _)
  have hv : vp_in (0 : Int32) 5 := vp_in_nI (n := 0) (by omega) (by omega)
  have c0 : (0 : Int32).toNatClampNeg = 0 := by decide
  unfold p_Mode_add p_RuleText_firstPlaces p_RuleText_lastPlaces
  rw [c0]
  refine ⟨hv, (fun z => by rw [ea] at z; cases z), fun z hz => ?_⟩
  rw [ea] at hz
  have hz := Option.some.inj hz
  subst hz
  refine ⟨ma, hv, (fun z => by rw [ea] at z; cases z), fun z hz => ?_⟩
  rw [ea] at hz
  have hz := Option.some.inj hz
  subst hz
  refine ⟨ma, ?_⟩
  rw [pa, h.pl]
  refine pk_loop (σ := (Nat → Int32) × (Nat → Int32) × (Nat → Int32)) (fun n i z => p_Mode_add_44 (nI S.q) lt fo (nI R) post n (nI D.P) (nI i) (nI (D.P + i)) (D.fi ||| ((S.ch 0).1 <<< (nI D.P &&& 31))) (D.la ||| ((S.ch 0).2.1 <<< (nI D.P &&& 31))) z.1 z.2.1 z.2.2) (fun i z => (∀ p, p < D.P → z.1 p = D.lt p ∧ z.2.1 p = D.fo p ∧ z.2.2 p = D.ru p) ∧ ∀ j, j < i → z.1 (D.P + j) = S.lt j ∧ z.2.1 (D.P + j) = S.fo j <<< (nI D.P &&& 31) ∧ z.2.2 (D.P + j) = nI R) S.q 0 (D.lt, D.fo, D.ru) (Nat.zero_le _) ⟨fun p _ => ⟨rfl, rfl, rfl⟩, fun j hj => absurd hj (Nat.not_lt_zero _)⟩ ?_ ?_
  · rintro n ⟨lt', fo', ru'⟩ ⟨h1, h2⟩
    refine ⟨fun _ => ?_, fun z => absurd (nI_le (Nat.le_refl _) (by omega)) z⟩
    exact hp (Md.mk (D.P + S.q) lt' fo' ru' (D.fi ||| ((S.ch 0).1 <<< (nI D.P &&& 31))) (D.la ||| ((S.ch 0).2.1 <<< (nI D.P &&& 31)))) ⟨rfl, fun p hp2 => (h1 p hp2).1, fun p hp2 => (h1 p hp2).2.1, fun p hp2 => (h1 p hp2).2.2, fun i hi => (h2 i hi).1, fun i hi => (h2 i hi).2.1, fun i hi => (h2 i hi).2.2, rfl, rfl⟩
  · rintro n i ⟨lt', fo', ru'⟩ hi ⟨h1, h2⟩ hk
    dsimp only at h1 h2 hk ⊢
    have hv9 : vp_in (nI (D.P + i)) 9 := vp_in_nI (by omega) (by omega)
    refine ⟨fun z => absurd z (nI_ge hi (by omega)), fun _ => ⟨fun z => absurd z (nI_ge (b := 9) (by omega) (by omega)), fun _ => ⟨vp_in_nI (by omega) (by omega), hv9, vp_in_nI (by omega) (by omega), hv9, hv9, ?_⟩⟩⟩
    rw [nI_clamp (n := i) (by omega), nI_clamp (n := D.P + i) (by omega), h.lt i hi, h.fo i hi, nI_1, nI_1]
    refine hk (upd lt' (D.P + i) (S.lt i), upd fo' (D.P + i) (S.fo i <<< (nI D.P &&& 31)), upd ru' (D.P + i) (nI R)) ⟨fun p hp2 => ?_, fun j hj => ?_⟩
    · dsimp only
      rw [pk_un (by omega), pk_un (by omega), pk_un (by omega)]
      exact h1 p hp2
    · dsimp only
      by_cases y : j = i
      · subst y; rw [pk_us, pk_us, pk_us]; exact ⟨rfl, rfl, rfl⟩
      · rw [pk_un (by omega), pk_un (by omega), pk_un (by omega)]
        exact h2 j (by omega)
/-- there is room for a rule -/
def RoomR (P : Nat → Nat) (R q : Nat) (x1 x2 : Int32) : Prop := R < 16 ∧ (∃ M, M < 3 ∧ x1 = nI M ∧ P M + q ≤ 9) ∧ ∃ a, a ≤ 4 ∧ x2 = nI a
theorem q_hasRoom {P : Nat → Nat} (hP : ∀ M, M < 3 → P M ≤ 9) {R q : Nat} (hR : R ≤ 16) (hq : q ≤ 24) {x1 x2 : Int32} {post : Int32 → Prop} (h1 : RoomR P R q x1 x2 → post 1) (h0 : ¬ RoomR P R q x1 x2 → post 0) : p_RuleBook_hasRoomFor (nI R) (nI (P 0)) (nI q) (nI (P 1)) (nI (P 2)) x1 x2 post := by
  have hroom : ∀ M, M < 3 → x1 = nI M → R < 16 → (∃ a, a ≤ 4 ∧ x2 = nI a) → p_Mode_hasRoomFor (nI (P M)) (nI q) (fun r => (r = 0 → post 0) ∧ (¬ r = 0 → post 1)) := fun M hM e hR2 ha => by
    have hPM := hP M hM
    unfold p_Mode_hasRoomFor p_RuleText_places
    show (9 < nI (P M) + nI q → _) ∧ (¬ 9 < nI (P M) + nI q → _)
    rw [nI_add]
    refine ⟨fun z => ⟨fun _ => h0 (fun ⟨_, ⟨M', hM', e', h9⟩, _⟩ => ?_), fun y => absurd rfl y⟩, fun z => ⟨fun y => absurd y (by decide), fun _ => h1 ⟨hR2, ⟨M, hM, e, ?_⟩, ha⟩⟩⟩
    · have : M' = M := (nI_eq (by omega) (by omega)).mp (by rw [← e', e])
      subst this
      exact absurd z (nI_nlt (a := 9) h9 (by omega))
    · rcases Nat.lt_or_ge 9 (P M + q) with y | y
      · exact absurd (nI_lt (a := 9) y (by omega)) z
      · exact y
  have hact : ¬ x2 < 0 → ¬ 4 < x2 → ∃ a, a ≤ 4 ∧ x2 = nI a := fun z y => by
    obtain ⟨a, ha, rfl⟩ := nI_of z
    refine ⟨a, ?_, rfl⟩
    rcases Nat.lt_or_ge 4 a with w | w
    · exact absurd (nI_lt (a := 4) w ha) y
    · exact w
  have hnact : (x2 < 0 ∨ 4 < x2) → ¬ RoomR P R q x1 x2 := fun z ⟨_, _, a, ha, e⟩ => by
    subst e
    rcases z with z | z
    · exact nI_pos (by omega) z
    · exact nI_nlt (a := 4) ha (by omega) z
  have hr16 : nI 16 ≤ nI R → ¬ RoomR P R q x1 x2 := fun z ⟨y, _⟩ => absurd z (nI_ge y (by omega))
  have hnr : ¬ (16 : Int32) ≤ nI R → R < 16 := fun z => by
    rcases Nat.lt_or_ge R 16 with y | y
    · exact y
    · exact absurd (nI_le (a := 16) y (by omega)) z
  have hmode0 : ∀ K : Int32 → Prop, (∀ r, K r) → p_TB_isMode x1 K := fun K hK => q_isMode (fun _ => hK 1) (fun _ => hK 0)
  have hfalse : ¬ RoomR P R q x1 x2 → ((16 : Int32) ≤ nI R → post 0) ∧ (¬ (16 : Int32) ≤ nI R → p_TB_isMode x1 (fun r => (r = 0 → post 0) ∧ (¬ r = 0 → post 0))) := fun z => ⟨fun _ => h0 z, fun _ => hmode0 _ (fun r => ⟨fun _ => h0 z, fun _ => h0 z⟩)⟩
  refine ⟨fun z => hfalse (hnact (Or.inl z)), fun z => ⟨fun y => hfalse (hnact (Or.inr y)), fun y => ⟨fun w => h0 (hr16 w), fun w => ?_⟩⟩⟩
  refine q_isMode (fun hm => ⟨fun v => absurd v (by decide), fun _ => ?_⟩) (fun hm => ⟨fun _ => h0 (fun ⟨_, ⟨M, hM, e, _⟩, _⟩ => hm (is3.mpr ⟨M, hM, e⟩)), fun v => absurd rfl v⟩)
  refine ⟨fun v => hroom 0 (by omega) v (hnr w) (hact z y), fun v => hroom 1 (by omega) v (hnr w) (hact z y), fun v => hroom 2 (by omega) v (hnr w) (hact z y), fun v1 v2 v3 => ?_⟩
  rcases hm with v | v | v
  · exact v1 v
  · exact v2 v
  · exact v3 v
