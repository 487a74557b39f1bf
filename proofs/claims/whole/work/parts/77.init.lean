/-! As both begin -/
def D00 : Md := Md.mk 0 (fun _ => 0) (fun _ => 0) (fun _ => 0) 0 0
def z00 : Nat → Int32 := fun _ => 0
theorem D00_ok : DOk D00 := ⟨by show 0 ≤ 9; omega, fun p hp => absurd hp (Nat.not_lt_zero p)⟩
theorem D00_lab : LaB D00 := fun p _ => tb_0 p
theorem WB.init {g s : Nat → Nat} {n : Nat} {fa fw : Nat → Int32} (hmi : Mini D00.au g n s) (hma : Mach D00.au g n s fa fw) {gap : Int32} : WB (fun _ => D00) (fun _ => g) (fun _ => n) (fun _ => s) (fun _ => fa) (fun _ => fw) (fun _ => gap) (fun _ => 0) 0 (fun _ => 0) z00 z00 z00 z00 z00 z00 z00 z00 z00 := by
  refine ⟨⟨fun _ _ => D00_ok, fun M hM => ⟨by show 0 ≤ 9; omega, hM, by omega, rfl, fun p hp => absurd hp (Nat.not_lt_zero p), fun p hp => absurd hp (Nat.not_lt_zero p), rfl, fun s hs => rfl⟩, fun _ _ => hmi⟩, fun _ _ => hma, fun _ _ => D00_lab, fun _ => by show 0 ≤ 4; omega, fun _ _ => rfl, fun _ _ => rfl, fun r hr => absurd hr (Nat.not_lt_zero r), fun _ _ q => absurd rfl q⟩
theorem RK.init {D : Nat → Md} {G : Nat → Nat → Nat} {n : Nat → Nat} {s : Nat → Nat → Nat} {no se st gr sa gs : Nat → Int32} : RK D G n s z00 no se st gr sa gs := fun _ _ q => absurd rfl q
theorem WT.none {tp : Nat → Nat} {ta tm : Nat → Int32} : WT tp 0 0 0 ta tm := ⟨by omega, rfl, rfl, fun i hi => absurd hi (Nat.not_lt_zero i)⟩
theorem q2_init {post : _} (hp : ∀ (n : Nat) (g s : Nat → Nat) fa fw fc pl gr fo be ne sa ol fi, Mini D00.au g n s → Mach D00.au g n s fa fw → post 0 z00 0 0 0 0 0 0 0 1 0 0 0 0 0 (-1) (fun _ => none) (fun _ => none) (fun _ => none) z00 z00 0 z00 z00 fc pl gr fo be ne sa ol fi (n * 6) fa n fw (-1) 0 0 0 0 z00 z00 z00 0 0 0 z00 z00 z00 0 0 0 z00 z00 z00 0 (-1) (-1) (-1) z00 z00 z00 z00 z00 0 0 0 0 0 0 0 0 0 (-1) 0 0 z00 z00 z00) : p_TB_init post := by
  unfold p_TB_init p_RuleText_init p_Piece_init p_LetterSet_init p_RuleBook_init p_MachineBuilder_init p_Mode_init
  refine ⟨Or.inl rfl, Or.inr rfl, ?_⟩
  refine q_build (D := D00) D00_ok (fun fc' pl' gr' fo' be' ne' sa' ol' fi' n g s fa fw hmi hma => ?_)
  exact hp n g s fa fw _ _ _ _ _ _ _ _ _ hmi hma
