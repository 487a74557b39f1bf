theorem d_Piece_init_0 : decode c_Piece_init 0 = .ok (.aload_n 0, 1) := by decide +kernel
theorem d_Piece_init_1 : decode c_Piece_init 1 = .ok (.invokespecial 1, 3) := by decide +kernel
theorem d_Piece_init_4 : decode c_Piece_init 4 = .ok (.aload_n 0, 1) := by decide +kernel
theorem d_Piece_init_5 : decode c_Piece_init 5 = .ok (.iload_n 1, 1) := by decide +kernel
theorem d_Piece_init_6 : decode c_Piece_init 6 = .ok (.putfield 7, 3) := by decide +kernel
theorem d_Piece_init_9 : decode c_Piece_init 9 = .ok (.aload_n 0, 1) := by decide +kernel
theorem d_Piece_init_10 : decode c_Piece_init 10 = .ok (.iload_n 2, 1) := by decide +kernel
theorem d_Piece_init_11 : decode c_Piece_init 11 = .ok (.putfield 13, 3) := by decide +kernel
theorem d_Piece_init_14 : decode c_Piece_init 14 = .ok (.aload_n 0, 1) := by decide +kernel
theorem d_Piece_init_15 : decode c_Piece_init 15 = .ok (.iload_n 3, 1) := by decide +kernel
theorem d_Piece_init_16 : decode c_Piece_init 16 = .ok (.putfield 16, 3) := by decide +kernel
theorem d_Piece_init_19 : decode c_Piece_init 19 = .ok (.return_, 1) := by decide +kernel
theorem d_Piece_or_0 : decode c_Piece_or 0 = .ok (.new 8, 3) := by decide +kernel
theorem d_Piece_or_3 : decode c_Piece_or 3 = .ok (.dup, 1) := by decide +kernel
theorem d_Piece_or_4 : decode c_Piece_or 4 = .ok (.aload_n 0, 1) := by decide +kernel
theorem d_Piece_or_5 : decode c_Piece_or 5 = .ok (.getfield 7, 3) := by decide +kernel
theorem d_Piece_or_8 : decode c_Piece_or 8 = .ok (.aload_n 1, 1) := by decide +kernel
theorem d_Piece_or_9 : decode c_Piece_or 9 = .ok (.getfield 7, 3) := by decide +kernel
theorem d_Piece_or_12 : decode c_Piece_or 12 = .ok (.ior, 1) := by decide +kernel
theorem d_Piece_or_13 : decode c_Piece_or 13 = .ok (.aload_n 0, 1) := by decide +kernel
theorem d_Piece_or_14 : decode c_Piece_or 14 = .ok (.getfield 13, 3) := by decide +kernel
theorem d_Piece_or_17 : decode c_Piece_or 17 = .ok (.aload_n 1, 1) := by decide +kernel
theorem d_Piece_or_18 : decode c_Piece_or 18 = .ok (.getfield 13, 3) := by decide +kernel
theorem d_Piece_or_21 : decode c_Piece_or 21 = .ok (.ior, 1) := by decide +kernel
theorem d_Piece_or_22 : decode c_Piece_or 22 = .ok (.aload_n 0, 1) := by decide +kernel
theorem d_Piece_or_23 : decode c_Piece_or 23 = .ok (.getfield 16, 3) := by decide +kernel
theorem d_Piece_or_26 : decode c_Piece_or 26 = .ok (.ifCond .ne 10, 3) := by decide +kernel
theorem d_Piece_or_29 : decode c_Piece_or 29 = .ok (.aload_n 1, 1) := by decide +kernel
theorem d_Piece_or_30 : decode c_Piece_or 30 = .ok (.getfield 16, 3) := by decide +kernel
theorem d_Piece_or_33 : decode c_Piece_or 33 = .ok (.ifCond .eq 7, 3) := by decide +kernel
theorem d_Piece_or_36 : decode c_Piece_or 36 = .ok (.iconst 1, 1) := by decide +kernel
theorem d_Piece_or_37 : decode c_Piece_or 37 = .ok (.goto 4, 3) := by decide +kernel
theorem d_Piece_or_40 : decode c_Piece_or 40 = .ok (.iconst 0, 1) := by decide +kernel
theorem d_Piece_or_41 : decode c_Piece_or 41 = .ok (.invokespecial 20, 3) := by decide +kernel
theorem d_Piece_or_44 : decode c_Piece_or 44 = .ok (.areturn, 1) := by decide +kernel
theorem d_Piece_then_0 : decode c_Piece_then 0 = .ok (.new 8, 3) := by decide +kernel
theorem d_Piece_then_3 : decode c_Piece_then 3 = .ok (.dup, 1) := by decide +kernel
theorem d_Piece_then_4 : decode c_Piece_then 4 = .ok (.aload_n 0, 1) := by decide +kernel
theorem d_Piece_then_5 : decode c_Piece_then 5 = .ok (.getfield 16, 3) := by decide +kernel
theorem d_Piece_then_8 : decode c_Piece_then 8 = .ok (.ifCond .eq 15, 3) := by decide +kernel
theorem d_Piece_then_11 : decode c_Piece_then 11 = .ok (.aload_n 0, 1) := by decide +kernel
theorem d_Piece_then_12 : decode c_Piece_then 12 = .ok (.getfield 7, 3) := by decide +kernel
theorem d_Piece_then_15 : decode c_Piece_then 15 = .ok (.aload_n 1, 1) := by decide +kernel
theorem d_Piece_then_16 : decode c_Piece_then 16 = .ok (.getfield 7, 3) := by decide +kernel
theorem d_Piece_then_19 : decode c_Piece_then 19 = .ok (.ior, 1) := by decide +kernel
theorem d_Piece_then_20 : decode c_Piece_then 20 = .ok (.goto 7, 3) := by decide +kernel
theorem d_Piece_then_23 : decode c_Piece_then 23 = .ok (.aload_n 0, 1) := by decide +kernel
theorem d_Piece_then_24 : decode c_Piece_then 24 = .ok (.getfield 7, 3) := by decide +kernel
theorem d_Piece_then_27 : decode c_Piece_then 27 = .ok (.aload_n 1, 1) := by decide +kernel
theorem d_Piece_then_28 : decode c_Piece_then 28 = .ok (.getfield 16, 3) := by decide +kernel
theorem d_Piece_then_31 : decode c_Piece_then 31 = .ok (.ifCond .eq 15, 3) := by decide +kernel
theorem d_Piece_then_34 : decode c_Piece_then 34 = .ok (.aload_n 0, 1) := by decide +kernel
theorem d_Piece_then_35 : decode c_Piece_then 35 = .ok (.getfield 13, 3) := by decide +kernel
theorem d_Piece_then_38 : decode c_Piece_then 38 = .ok (.aload_n 1, 1) := by decide +kernel
theorem d_Piece_then_39 : decode c_Piece_then 39 = .ok (.getfield 13, 3) := by decide +kernel
theorem d_Piece_then_42 : decode c_Piece_then 42 = .ok (.ior, 1) := by decide +kernel
theorem d_Piece_then_43 : decode c_Piece_then 43 = .ok (.goto 7, 3) := by decide +kernel
theorem d_Piece_then_46 : decode c_Piece_then 46 = .ok (.aload_n 1, 1) := by decide +kernel
theorem d_Piece_then_47 : decode c_Piece_then 47 = .ok (.getfield 13, 3) := by decide +kernel
theorem d_Piece_then_50 : decode c_Piece_then 50 = .ok (.aload_n 0, 1) := by decide +kernel
theorem d_Piece_then_51 : decode c_Piece_then 51 = .ok (.getfield 16, 3) := by decide +kernel
theorem d_Piece_then_54 : decode c_Piece_then 54 = .ok (.ifCond .eq 14, 3) := by decide +kernel
theorem d_Piece_then_57 : decode c_Piece_then 57 = .ok (.aload_n 1, 1) := by decide +kernel
theorem d_Piece_then_58 : decode c_Piece_then 58 = .ok (.getfield 16, 3) := by decide +kernel
theorem d_Piece_then_61 : decode c_Piece_then 61 = .ok (.ifCond .eq 7, 3) := by decide +kernel
theorem d_Piece_then_64 : decode c_Piece_then 64 = .ok (.iconst 1, 1) := by decide +kernel
theorem d_Piece_then_65 : decode c_Piece_then 65 = .ok (.goto 4, 3) := by decide +kernel
theorem d_Piece_then_68 : decode c_Piece_then 68 = .ok (.iconst 0, 1) := by decide +kernel
theorem d_Piece_then_69 : decode c_Piece_then 69 = .ok (.invokespecial 20, 3) := by decide +kernel
theorem d_Piece_then_72 : decode c_Piece_then 72 = .ok (.areturn, 1) := by decide +kernel
theorem d_Piece_orEmpty_0 : decode c_Piece_orEmpty 0 = .ok (.new 8, 3) := by decide +kernel
theorem d_Piece_orEmpty_3 : decode c_Piece_orEmpty 3 = .ok (.dup, 1) := by decide +kernel
theorem d_Piece_orEmpty_4 : decode c_Piece_orEmpty 4 = .ok (.aload_n 0, 1) := by decide +kernel
theorem d_Piece_orEmpty_5 : decode c_Piece_orEmpty 5 = .ok (.getfield 7, 3) := by decide +kernel
theorem d_Piece_orEmpty_8 : decode c_Piece_orEmpty 8 = .ok (.aload_n 0, 1) := by decide +kernel
theorem d_Piece_orEmpty_9 : decode c_Piece_orEmpty 9 = .ok (.getfield 13, 3) := by decide +kernel
theorem d_Piece_orEmpty_12 : decode c_Piece_orEmpty 12 = .ok (.iconst 1, 1) := by decide +kernel
theorem d_Piece_orEmpty_13 : decode c_Piece_orEmpty 13 = .ok (.invokespecial 20, 3) := by decide +kernel
theorem d_Piece_orEmpty_16 : decode c_Piece_orEmpty 16 = .ok (.areturn, 1) := by decide +kernel
def p_Piece_init (x1 : Int32) (x2 : Int32) (x3 : Int32) (post : Int32 → Int32 → Int32 → Prop) : Prop := (bz x3 ∧ (post x1 x2 x3))
set_option maxHeartbeats 4000000 in
set_option maxRecDepth 100000 in
theorem k_Piece_init (l : Launch) (G : va_G) (K : Nat → ClassId) (a0 : Nat) (sz : Nat) (x1 : Int32) (x2 : Int32) (x3 : Int32) (post : Int32 → Int32 → Int32 → Prop) (h : p_Piece_init x1 x2 x3 post) : MWv l y_Piece_init (.code y_Piece_init c_Piece_init 4 none) { frames := 1, cells := 0, slots := 0, locals := 20 } G K [(a0, .inr (7, [.int 0, .int 0, .int 0]))] [] [.ref a0, .int x1, .int x2, .int x3] sz (fun (u : Int32 × Int32 × Int32) => post u.1 u.2.1 u.2.2) (fun u => [(a0, .inr (7, [.int u.1, .int u.2.1, .int u.2.2]))]) 0 0 := by
  refine g_metWv (cc := c_Piece_init) (maxL := 4) (ret := none) (by decide) rfl rfl (Nat.le_of_ble_eq_true rfl) ?_
  intro p e s m below meth c A Q hx hb hml hown hname htg hK hN hP hD hA hS hR rN hret ls hl
  have hl : lv_has ls 4 [(0, .ref a0), (1, .int x1), (2, .int x2), (3, .int x3)] := hl
  refine lv_aload_n hx hb d_Piece_init_0 rfl (lv_at hl 0 rfl) ?_
  refine W.objInit hx hb hown (htg _ m_35) (htg _ m_23) (htg _ m_24) rfl (by rw [hml]; exact hl.1) rfl d_Piece_init_1 (Nat.le_of_ble_eq_true rfl) (Nat.le_of_ble_eq_true rfl) ?_
  refine W.eq (g2 := F0 m 4 ls []) rfl ?_
  refine lv_aload_n hx hb d_Piece_init_4 rfl (lv_at hl 0 rfl) ?_
  refine lv_iload_n hx hb d_Piece_init_5 rfl (lv_at hl 1 rfl) ?_
  refine va_putF (ci := 7) (v := .int x1) (ty := .int) hx hb htg in_Piece t_Piece tok_Piece nm_Piece hown hK hP hD hS 0 rfl rfl 0 (by decide) (htg _ m_36) (fun _ h9 => h9) rfl hname rfl (by decide +kernel) rfl rfl (Nat.le_of_ble_eq_true rfl) d_Piece_init_6 (fun H locs hP hD hS => ?_)
  have hP : va_P G vwCl [(a0, .inr (7, [.int x1, .int 0, .int 0]))] H := hP
  have hD : va_D A [(a0, .inr (7, [.int x1, .int 0, .int 0]))] := hD
  refine lv_aload_n hx hb d_Piece_init_9 rfl (lv_at hl 0 rfl) ?_
  refine lv_iload_n hx hb d_Piece_init_10 rfl (lv_at hl 2 rfl) ?_
  refine va_putF (ci := 7) (v := .int x2) (ty := .int) hx hb htg in_Piece t_Piece tok_Piece nm_Piece hown hK hP hD hS 0 rfl rfl 1 (by decide) (htg _ m_37) (fun _ h9 => h9) rfl hname rfl (by decide +kernel) rfl rfl (Nat.le_of_ble_eq_true rfl) d_Piece_init_11 (fun H locs hP hD hS => ?_)
  have hP : va_P G vwCl [(a0, .inr (7, [.int x1, .int x2, .int 0]))] H := hP
  have hD : va_D A [(a0, .inr (7, [.int x1, .int x2, .int 0]))] := hD
  refine lv_aload_n hx hb d_Piece_init_14 rfl (lv_at hl 0 rfl) ?_
  refine lv_iload_n hx hb d_Piece_init_15 rfl (lv_at hl 3 rfl) ?_
  obtain ⟨hz, h⟩ := h
  refine va_putF (ci := 7) (v := .int x3) (ty := .boolean) hx hb htg in_Piece t_Piece tok_Piece nm_Piece hown hK hP hD hS 0 rfl rfl 2 (by decide) (htg _ m_38) (fun _ h9 => h9) rfl hname rfl (by decide +kernel) (bz_nar hz) (bz_fit hz) (Nat.le_of_ble_eq_true rfl) d_Piece_init_16 (fun H locs hP hD hS => ?_)
  have hP : va_P G vwCl [(a0, .inr (7, [.int x1, .int x2, .int x3]))] H := hP
  have hD : va_D A [(a0, .inr (7, [.int x1, .int x2, .int x3]))] := hD
  exact hret (x1, x2, x3) _ _ _ _ h (hP.sub [0] rfl) (hD.sub [0] (by decide) rfl) hS d_Piece_init_19
def p_Piece_or (v_o_first : Int32) (v_o_last : Int32) (v_o_matchesEmpty : Int32) (v_p1_first : Int32) (v_p1_last : Int32) (v_p1_matchesEmpty : Int32) (post : Int32 → Int32 → Int32 → Prop) : Prop := ((¬ v_o_matchesEmpty = 0 → (p_Piece_init (v_o_first ||| v_p1_first) (v_o_last ||| v_p1_last) 1 (fun u2 u3 u4 => (post u2 u3 u4)))) ∧ (v_o_matchesEmpty = 0 → ((v_p1_matchesEmpty = 0 → (p_Piece_init (v_o_first ||| v_p1_first) (v_o_last ||| v_p1_last) 0 (fun u6 u7 u8 => (post u6 u7 u8)))) ∧ (¬ v_p1_matchesEmpty = 0 → (p_Piece_init (v_o_first ||| v_p1_first) (v_o_last ||| v_p1_last) 1 (fun u10 u11 u12 => (post u10 u11 u12)))))))
set_option maxHeartbeats 4000000 in
set_option maxRecDepth 100000 in
theorem k_Piece_or (l : Launch) (G : va_G) (K : Nat → ClassId) (a0 a1 : Nat) (sz : Nat) (v_o_first : Int32) (v_o_last : Int32) (v_o_matchesEmpty : Int32) (v_p1_first : Int32) (v_p1_last : Int32) (v_p1_matchesEmpty : Int32) (post : Int32 → Int32 → Int32 → Prop) (h : p_Piece_or v_o_first v_o_last v_o_matchesEmpty v_p1_first v_p1_last v_p1_matchesEmpty post) : MWr l y_Piece_or (.code y_Piece_or c_Piece_or 2 (some (.object "TokenBench$Piece"))) { frames := 2, cells := 1, slots := 3, locals := 43 } G K [] [(a0, .inr (7, [.int v_o_first, .int v_o_last, .int v_o_matchesEmpty])), (a1, .inr (7, [.int v_p1_first, .int v_p1_last, .int v_p1_matchesEmpty]))] [.ref a0, .ref a1] sz (fun (u : Int32 × Int32 × Int32) => post u.1 u.2.1 u.2.2) (fun u ra => [(ra, .inr (7, [.int u.1, .int u.2.1, .int u.2.2]))]) 1 3 := by
  refine g_metWr (cc := c_Piece_or) (maxL := 2) (ret := some (.object "TokenBench$Piece")) (by decide) rfl rfl (Nat.le_of_ble_eq_true rfl) ?_
  intro p e s m below meth c A Q hx hb hml hown hname htg hK hN hP hD hA hS hR rN hret ls hl
  have hl : lv_has ls 2 [(0, .ref a0), (1, .ref a1)] := hl
  refine va_new (ci := 7) (fs := [.int 0, .int 0, .int 0]) hx hb htg in_Piece t_Piece tok_Piece hown (htg _ m_253) (htg _ m_31) (htg _ m_3) hK hP hD hS hA rfl (fun j hj => by rcases (show j = 0 ∨ j = 1 ∨ j = 2 by omega) with rfl | rfl | rfl <;> rfl) (Nat.le_of_ble_eq_true rfl) (Nat.le_of_ble_eq_true rfl) d_Piece_or_0 (fun q1 H hP hD hS => ?_)
  have hP : va_P G vwCl [(q1, .inr (7, [.int 0, .int 0, .int 0]))] H := hP
  have hD : va_D A [(q1, .inr (7, [.int 0, .int 0, .int 0]))] := hD
  refine lv_dup hx hb d_Piece_or_3 rfl ?_
  refine lv_aload_n hx hb d_Piece_or_4 rfl (lv_at hl 0 rfl) ?_
  refine va_get (ci := 7) (v := .int v_o_first) hx hb htg in_Piece hown hK (gR hR rN hS) 0 rfl rfl 0 (by decide) (htg _ m_36) (fun _ h9 => h9) rfl d_Piece_or_5 ?_
  refine lv_aload_n hx hb d_Piece_or_8 rfl (lv_at hl 1 rfl) ?_
  refine va_get (ci := 7) (v := .int v_p1_first) hx hb htg in_Piece hown hK (gR hR rN hS) 1 rfl rfl 0 (by decide) (htg _ m_36) (fun _ h9 => h9) rfl d_Piece_or_9 ?_
  refine lv_ior hx hb d_Piece_or_12 ?_
  refine lv_aload_n hx hb d_Piece_or_13 rfl (lv_at hl 0 rfl) ?_
  refine va_get (ci := 7) (v := .int v_o_last) hx hb htg in_Piece hown hK (gR hR rN hS) 0 rfl rfl 1 (by decide) (htg _ m_37) (fun _ h9 => h9) rfl d_Piece_or_14 ?_
  refine lv_aload_n hx hb d_Piece_or_17 rfl (lv_at hl 1 rfl) ?_
  refine va_get (ci := 7) (v := .int v_p1_last) hx hb htg in_Piece hown hK (gR hR rN hS) 1 rfl rfl 1 (by decide) (htg _ m_37) (fun _ h9 => h9) rfl d_Piece_or_18 ?_
  refine lv_ior hx hb d_Piece_or_21 ?_
  refine lv_aload_n hx hb d_Piece_or_22 rfl (lv_at hl 0 rfl) ?_
  refine va_get (ci := 7) (v := .int v_o_matchesEmpty) hx hb htg in_Piece hown hK (gR hR rN hS) 0 rfl rfl 2 (by decide) (htg _ m_38) (fun _ h9 => h9) rfl d_Piece_or_23 ?_
  refine lv_if_ne (tgt := 36) hx hb d_Piece_or_26 (by decide) (fun hc => ?_) (fun hc => ?_)
  · replace h := h.1 hc
    refine lv_iconst (v := 1) hx hb d_Piece_or_36 (by decide) ?_
    refine lv_goto (tgt := 41) hx hb d_Piece_or_37 (by decide) ?_
    have hPc : va_P G vwCl [(q1, .inr (7, [.int 0, .int 0, .int 0]))] _ := hP.sub [0] rfl
    have hDc : va_D A [(q1, .inr (7, [.int 0, .int 0, .int 0]))] := hD.sub [0] (by decide) rfl
    have hRc : va_P G vwCl [] _ := hP.sub [] rfl
    have hJc : gJ [(q1, .inr (7, [.int 0, .int 0, .int 0]))] [] := gJ_nil
    refine g_callv (wr := []) (va_runI (As := [.int (v_o_first ||| v_p1_first), .int (v_o_last ||| v_p1_last), .int 1]) (rest := [.ref q1]) ⟨hx, hb, hml, hown, htg⟩ (k_Piece_init l G K q1 _ (v_o_first ||| v_p1_first) (v_o_last ||| v_p1_last) 1 _ h) (cwI 3 htg (gGood m_34) rfl rfl rfl (htg _ m_3) (htg _ m_254) (htg _ m_33) rfl (by decide +kernel) ⟨(Nat.le_of_ble_eq_true rfl), (Nat.le_of_ble_eq_true rfl)⟩) (gW_pre hK hN hPc hDc hRc hJc) rfl rfl hl.1 rfl (lv_room (Nat.le_of_ble_eq_true rfl)) d_Piece_or_41 ⟨(Nat.le_of_ble_eq_true rfl), (Nat.le_of_ble_eq_true rfl)⟩) hP hD hS hA [0] [] rfl rfl (by decide) (by decide) (fun u H locs h hP hD hS => ?_)
    obtain ⟨u2, u3, u4⟩ := u
    try dsimp only at h
    have hP : va_P G vwCl [(q1, .inr (7, [.int u2, .int u3, .int u4]))] H := hP
    have hD : va_D A [(q1, .inr (7, [.int u2, .int u3, .int u4]))] := hD
    exact hret (u2, u3, u4) _ _ _ _ _ h (hP.sub [0] rfl) (hD.sub [0] (by decide) rfl) hS d_Piece_or_44
  · replace h := h.2 hc
    refine lv_aload_n hx hb d_Piece_or_29 rfl (lv_at hl 1 rfl) ?_
    refine va_get (ci := 7) (v := .int v_p1_matchesEmpty) hx hb htg in_Piece hown hK (gR hR rN hS) 1 rfl rfl 2 (by decide) (htg _ m_38) (fun _ h9 => h9) rfl d_Piece_or_30 ?_
    refine lv_if_eq (tgt := 40) hx hb d_Piece_or_33 (by decide) (fun hc => ?_) (fun hc => ?_)
    · replace h := h.1 hc
      refine lv_iconst (v := 0) hx hb d_Piece_or_40 (by decide) ?_
      have hPc : va_P G vwCl [(q1, .inr (7, [.int 0, .int 0, .int 0]))] _ := hP.sub [0] rfl
      have hDc : va_D A [(q1, .inr (7, [.int 0, .int 0, .int 0]))] := hD.sub [0] (by decide) rfl
      have hRc : va_P G vwCl [] _ := hP.sub [] rfl
      have hJc : gJ [(q1, .inr (7, [.int 0, .int 0, .int 0]))] [] := gJ_nil
      refine g_callv (wr := []) (va_runI (As := [.int (v_o_first ||| v_p1_first), .int (v_o_last ||| v_p1_last), .int 0]) (rest := [.ref q1]) ⟨hx, hb, hml, hown, htg⟩ (k_Piece_init l G K q1 _ (v_o_first ||| v_p1_first) (v_o_last ||| v_p1_last) 0 _ h) (cwI 3 htg (gGood m_34) rfl rfl rfl (htg _ m_3) (htg _ m_254) (htg _ m_33) rfl (by decide +kernel) ⟨(Nat.le_of_ble_eq_true rfl), (Nat.le_of_ble_eq_true rfl)⟩) (gW_pre hK hN hPc hDc hRc hJc) rfl rfl hl.1 rfl (lv_room (Nat.le_of_ble_eq_true rfl)) d_Piece_or_41 ⟨(Nat.le_of_ble_eq_true rfl), (Nat.le_of_ble_eq_true rfl)⟩) hP hD hS hA [0] [] rfl rfl (by decide) (by decide) (fun u H locs h hP hD hS => ?_)
      obtain ⟨u6, u7, u8⟩ := u
      try dsimp only at h
      have hP : va_P G vwCl [(q1, .inr (7, [.int u6, .int u7, .int u8]))] H := hP
      have hD : va_D A [(q1, .inr (7, [.int u6, .int u7, .int u8]))] := hD
      exact hret (u6, u7, u8) _ _ _ _ _ h (hP.sub [0] rfl) (hD.sub [0] (by decide) rfl) hS d_Piece_or_44
    · replace h := h.2 hc
      refine lv_iconst (v := 1) hx hb d_Piece_or_36 (by decide) ?_
      refine lv_goto (tgt := 41) hx hb d_Piece_or_37 (by decide) ?_
      have hPc : va_P G vwCl [(q1, .inr (7, [.int 0, .int 0, .int 0]))] _ := hP.sub [0] rfl
      have hDc : va_D A [(q1, .inr (7, [.int 0, .int 0, .int 0]))] := hD.sub [0] (by decide) rfl
      have hRc : va_P G vwCl [] _ := hP.sub [] rfl
      have hJc : gJ [(q1, .inr (7, [.int 0, .int 0, .int 0]))] [] := gJ_nil
      refine g_callv (wr := []) (va_runI (As := [.int (v_o_first ||| v_p1_first), .int (v_o_last ||| v_p1_last), .int 1]) (rest := [.ref q1]) ⟨hx, hb, hml, hown, htg⟩ (k_Piece_init l G K q1 _ (v_o_first ||| v_p1_first) (v_o_last ||| v_p1_last) 1 _ h) (cwI 3 htg (gGood m_34) rfl rfl rfl (htg _ m_3) (htg _ m_254) (htg _ m_33) rfl (by decide +kernel) ⟨(Nat.le_of_ble_eq_true rfl), (Nat.le_of_ble_eq_true rfl)⟩) (gW_pre hK hN hPc hDc hRc hJc) rfl rfl hl.1 rfl (lv_room (Nat.le_of_ble_eq_true rfl)) d_Piece_or_41 ⟨(Nat.le_of_ble_eq_true rfl), (Nat.le_of_ble_eq_true rfl)⟩) hP hD hS hA [0] [] rfl rfl (by decide) (by decide) (fun u H locs h hP hD hS => ?_)
      obtain ⟨u10, u11, u12⟩ := u
      try dsimp only at h
      have hP : va_P G vwCl [(q1, .inr (7, [.int u10, .int u11, .int u12]))] H := hP
      have hD : va_D A [(q1, .inr (7, [.int u10, .int u11, .int u12]))] := hD
      exact hret (u10, u11, u12) _ _ _ _ _ h (hP.sub [0] rfl) (hD.sub [0] (by decide) rfl) hS d_Piece_or_44
def p_Piece_then (v_o_first : Int32) (v_o_last : Int32) (v_o_matchesEmpty : Int32) (v_p1_first : Int32) (v_p1_last : Int32) (v_p1_matchesEmpty : Int32) (post : Int32 → Int32 → Int32 → Prop) : Prop := ((v_o_matchesEmpty = 0 → ((v_p1_matchesEmpty = 0 → ((v_o_matchesEmpty = 0 → (p_Piece_init v_o_first v_p1_last 0 (fun u2 u3 u4 => (post u2 u3 u4)))) ∧ (¬ v_o_matchesEmpty = 0 → ((v_p1_matchesEmpty = 0 → (p_Piece_init v_o_first v_p1_last 0 (fun u6 u7 u8 => (post u6 u7 u8)))) ∧ (¬ v_p1_matchesEmpty = 0 → (p_Piece_init v_o_first v_p1_last 1 (fun u10 u11 u12 => (post u10 u11 u12)))))))) ∧ (¬ v_p1_matchesEmpty = 0 → ((v_o_matchesEmpty = 0 → (p_Piece_init v_o_first (v_o_last ||| v_p1_last) 0 (fun u14 u15 u16 => (post u14 u15 u16)))) ∧ (¬ v_o_matchesEmpty = 0 → ((v_p1_matchesEmpty = 0 → (p_Piece_init v_o_first (v_o_last ||| v_p1_last) 0 (fun u18 u19 u20 => (post u18 u19 u20)))) ∧ (¬ v_p1_matchesEmpty = 0 → (p_Piece_init v_o_first (v_o_last ||| v_p1_last) 1 (fun u22 u23 u24 => (post u22 u23 u24)))))))))) ∧ (¬ v_o_matchesEmpty = 0 → ((v_p1_matchesEmpty = 0 → ((v_o_matchesEmpty = 0 → (p_Piece_init (v_o_first ||| v_p1_first) v_p1_last 0 (fun u26 u27 u28 => (post u26 u27 u28)))) ∧ (¬ v_o_matchesEmpty = 0 → ((v_p1_matchesEmpty = 0 → (p_Piece_init (v_o_first ||| v_p1_first) v_p1_last 0 (fun u30 u31 u32 => (post u30 u31 u32)))) ∧ (¬ v_p1_matchesEmpty = 0 → (p_Piece_init (v_o_first ||| v_p1_first) v_p1_last 1 (fun u34 u35 u36 => (post u34 u35 u36)))))))) ∧ (¬ v_p1_matchesEmpty = 0 → ((v_o_matchesEmpty = 0 → (p_Piece_init (v_o_first ||| v_p1_first) (v_o_last ||| v_p1_last) 0 (fun u38 u39 u40 => (post u38 u39 u40)))) ∧ (¬ v_o_matchesEmpty = 0 → ((v_p1_matchesEmpty = 0 → (p_Piece_init (v_o_first ||| v_p1_first) (v_o_last ||| v_p1_last) 0 (fun u42 u43 u44 => (post u42 u43 u44)))) ∧ (¬ v_p1_matchesEmpty = 0 → (p_Piece_init (v_o_first ||| v_p1_first) (v_o_last ||| v_p1_last) 1 (fun u46 u47 u48 => (post u46 u47 u48)))))))))))
set_option maxHeartbeats 4000000 in
set_option maxRecDepth 100000 in
theorem k_Piece_then (l : Launch) (G : va_G) (K : Nat → ClassId) (a0 a1 : Nat) (sz : Nat) (v_o_first : Int32) (v_o_last : Int32) (v_o_matchesEmpty : Int32) (v_p1_first : Int32) (v_p1_last : Int32) (v_p1_matchesEmpty : Int32) (post : Int32 → Int32 → Int32 → Prop) (h : p_Piece_then v_o_first v_o_last v_o_matchesEmpty v_p1_first v_p1_last v_p1_matchesEmpty post) : MWr l y_Piece_then (.code y_Piece_then c_Piece_then 2 (some (.object "TokenBench$Piece"))) { frames := 2, cells := 1, slots := 3, locals := 43 } G K [] [(a0, .inr (7, [.int v_o_first, .int v_o_last, .int v_o_matchesEmpty])), (a1, .inr (7, [.int v_p1_first, .int v_p1_last, .int v_p1_matchesEmpty]))] [.ref a0, .ref a1] sz (fun (u : Int32 × Int32 × Int32) => post u.1 u.2.1 u.2.2) (fun u ra => [(ra, .inr (7, [.int u.1, .int u.2.1, .int u.2.2]))]) 1 3 := by
  refine g_metWr (cc := c_Piece_then) (maxL := 2) (ret := some (.object "TokenBench$Piece")) (by decide) rfl rfl (Nat.le_of_ble_eq_true rfl) ?_
  intro p e s m below meth c A Q hx hb hml hown hname htg hK hN hP hD hA hS hR rN hret ls hl
  have hl : lv_has ls 2 [(0, .ref a0), (1, .ref a1)] := hl
  refine va_new (ci := 7) (fs := [.int 0, .int 0, .int 0]) hx hb htg in_Piece t_Piece tok_Piece hown (htg _ m_253) (htg _ m_31) (htg _ m_3) hK hP hD hS hA rfl (fun j hj => by rcases (show j = 0 ∨ j = 1 ∨ j = 2 by omega) with rfl | rfl | rfl <;> rfl) (Nat.le_of_ble_eq_true rfl) (Nat.le_of_ble_eq_true rfl) d_Piece_then_0 (fun q1 H hP hD hS => ?_)
  have hP : va_P G vwCl [(q1, .inr (7, [.int 0, .int 0, .int 0]))] H := hP
  have hD : va_D A [(q1, .inr (7, [.int 0, .int 0, .int 0]))] := hD
  refine lv_dup hx hb d_Piece_then_3 rfl ?_
  refine lv_aload_n hx hb d_Piece_then_4 rfl (lv_at hl 0 rfl) ?_
  refine va_get (ci := 7) (v := .int v_o_matchesEmpty) hx hb htg in_Piece hown hK (gR hR rN hS) 0 rfl rfl 2 (by decide) (htg _ m_38) (fun _ h9 => h9) rfl d_Piece_then_5 ?_
  refine lv_if_eq (tgt := 23) hx hb d_Piece_then_8 (by decide) (fun hc => ?_) (fun hc => ?_)
  · replace h := h.1 hc
    refine lv_aload_n hx hb d_Piece_then_23 rfl (lv_at hl 0 rfl) ?_
    refine va_get (ci := 7) (v := .int v_o_first) hx hb htg in_Piece hown hK (gR hR rN hS) 0 rfl rfl 0 (by decide) (htg _ m_36) (fun _ h9 => h9) rfl d_Piece_then_24 ?_
    refine lv_aload_n hx hb d_Piece_then_27 rfl (lv_at hl 1 rfl) ?_
    refine va_get (ci := 7) (v := .int v_p1_matchesEmpty) hx hb htg in_Piece hown hK (gR hR rN hS) 1 rfl rfl 2 (by decide) (htg _ m_38) (fun _ h9 => h9) rfl d_Piece_then_28 ?_
    refine lv_if_eq (tgt := 46) hx hb d_Piece_then_31 (by decide) (fun hc => ?_) (fun hc => ?_)
    · replace h := h.1 hc
      refine lv_aload_n hx hb d_Piece_then_46 rfl (lv_at hl 1 rfl) ?_
      refine va_get (ci := 7) (v := .int v_p1_last) hx hb htg in_Piece hown hK (gR hR rN hS) 1 rfl rfl 1 (by decide) (htg _ m_37) (fun _ h9 => h9) rfl d_Piece_then_47 ?_
      refine lv_aload_n hx hb d_Piece_then_50 rfl (lv_at hl 0 rfl) ?_
      refine va_get (ci := 7) (v := .int v_o_matchesEmpty) hx hb htg in_Piece hown hK (gR hR rN hS) 0 rfl rfl 2 (by decide) (htg _ m_38) (fun _ h9 => h9) rfl d_Piece_then_51 ?_
      refine lv_if_eq (tgt := 68) hx hb d_Piece_then_54 (by decide) (fun hc => ?_) (fun hc => ?_)
      · replace h := h.1 hc
        refine lv_iconst (v := 0) hx hb d_Piece_then_68 (by decide) ?_
        have hPc : va_P G vwCl [(q1, .inr (7, [.int 0, .int 0, .int 0]))] _ := hP.sub [0] rfl
        have hDc : va_D A [(q1, .inr (7, [.int 0, .int 0, .int 0]))] := hD.sub [0] (by decide) rfl
        have hRc : va_P G vwCl [] _ := hP.sub [] rfl
        have hJc : gJ [(q1, .inr (7, [.int 0, .int 0, .int 0]))] [] := gJ_nil
        refine g_callv (wr := []) (va_runI (As := [.int v_o_first, .int v_p1_last, .int 0]) (rest := [.ref q1]) ⟨hx, hb, hml, hown, htg⟩ (k_Piece_init l G K q1 _ v_o_first v_p1_last 0 _ h) (cwI 3 htg (gGood m_34) rfl rfl rfl (htg _ m_3) (htg _ m_254) (htg _ m_33) rfl (by decide +kernel) ⟨(Nat.le_of_ble_eq_true rfl), (Nat.le_of_ble_eq_true rfl)⟩) (gW_pre hK hN hPc hDc hRc hJc) rfl rfl hl.1 rfl (lv_room (Nat.le_of_ble_eq_true rfl)) d_Piece_then_69 ⟨(Nat.le_of_ble_eq_true rfl), (Nat.le_of_ble_eq_true rfl)⟩) hP hD hS hA [0] [] rfl rfl (by decide) (by decide) (fun u H locs h hP hD hS => ?_)
        obtain ⟨u2, u3, u4⟩ := u
        try dsimp only at h
        have hP : va_P G vwCl [(q1, .inr (7, [.int u2, .int u3, .int u4]))] H := hP
        have hD : va_D A [(q1, .inr (7, [.int u2, .int u3, .int u4]))] := hD
        exact hret (u2, u3, u4) _ _ _ _ _ h (hP.sub [0] rfl) (hD.sub [0] (by decide) rfl) hS d_Piece_then_72
      · replace h := h.2 hc
        refine lv_aload_n hx hb d_Piece_then_57 rfl (lv_at hl 1 rfl) ?_
        refine va_get (ci := 7) (v := .int v_p1_matchesEmpty) hx hb htg in_Piece hown hK (gR hR rN hS) 1 rfl rfl 2 (by decide) (htg _ m_38) (fun _ h9 => h9) rfl d_Piece_then_58 ?_
        refine lv_if_eq (tgt := 68) hx hb d_Piece_then_61 (by decide) (fun hc => ?_) (fun hc => ?_)
        · replace h := h.1 hc
          refine lv_iconst (v := 0) hx hb d_Piece_then_68 (by decide) ?_
          have hPc : va_P G vwCl [(q1, .inr (7, [.int 0, .int 0, .int 0]))] _ := hP.sub [0] rfl
          have hDc : va_D A [(q1, .inr (7, [.int 0, .int 0, .int 0]))] := hD.sub [0] (by decide) rfl
          have hRc : va_P G vwCl [] _ := hP.sub [] rfl
          have hJc : gJ [(q1, .inr (7, [.int 0, .int 0, .int 0]))] [] := gJ_nil
          refine g_callv (wr := []) (va_runI (As := [.int v_o_first, .int v_p1_last, .int 0]) (rest := [.ref q1]) ⟨hx, hb, hml, hown, htg⟩ (k_Piece_init l G K q1 _ v_o_first v_p1_last 0 _ h) (cwI 3 htg (gGood m_34) rfl rfl rfl (htg _ m_3) (htg _ m_254) (htg _ m_33) rfl (by decide +kernel) ⟨(Nat.le_of_ble_eq_true rfl), (Nat.le_of_ble_eq_true rfl)⟩) (gW_pre hK hN hPc hDc hRc hJc) rfl rfl hl.1 rfl (lv_room (Nat.le_of_ble_eq_true rfl)) d_Piece_then_69 ⟨(Nat.le_of_ble_eq_true rfl), (Nat.le_of_ble_eq_true rfl)⟩) hP hD hS hA [0] [] rfl rfl (by decide) (by decide) (fun u H locs h hP hD hS => ?_)
          obtain ⟨u6, u7, u8⟩ := u
          try dsimp only at h
          have hP : va_P G vwCl [(q1, .inr (7, [.int u6, .int u7, .int u8]))] H := hP
          have hD : va_D A [(q1, .inr (7, [.int u6, .int u7, .int u8]))] := hD
          exact hret (u6, u7, u8) _ _ _ _ _ h (hP.sub [0] rfl) (hD.sub [0] (by decide) rfl) hS d_Piece_then_72
        · replace h := h.2 hc
          refine lv_iconst (v := 1) hx hb d_Piece_then_64 (by decide) ?_
          refine lv_goto (tgt := 69) hx hb d_Piece_then_65 (by decide) ?_
          have hPc : va_P G vwCl [(q1, .inr (7, [.int 0, .int 0, .int 0]))] _ := hP.sub [0] rfl
          have hDc : va_D A [(q1, .inr (7, [.int 0, .int 0, .int 0]))] := hD.sub [0] (by decide) rfl
          have hRc : va_P G vwCl [] _ := hP.sub [] rfl
          have hJc : gJ [(q1, .inr (7, [.int 0, .int 0, .int 0]))] [] := gJ_nil
          refine g_callv (wr := []) (va_runI (As := [.int v_o_first, .int v_p1_last, .int 1]) (rest := [.ref q1]) ⟨hx, hb, hml, hown, htg⟩ (k_Piece_init l G K q1 _ v_o_first v_p1_last 1 _ h) (cwI 3 htg (gGood m_34) rfl rfl rfl (htg _ m_3) (htg _ m_254) (htg _ m_33) rfl (by decide +kernel) ⟨(Nat.le_of_ble_eq_true rfl), (Nat.le_of_ble_eq_true rfl)⟩) (gW_pre hK hN hPc hDc hRc hJc) rfl rfl hl.1 rfl (lv_room (Nat.le_of_ble_eq_true rfl)) d_Piece_then_69 ⟨(Nat.le_of_ble_eq_true rfl), (Nat.le_of_ble_eq_true rfl)⟩) hP hD hS hA [0] [] rfl rfl (by decide) (by decide) (fun u H locs h hP hD hS => ?_)
          obtain ⟨u10, u11, u12⟩ := u
          try dsimp only at h
          have hP : va_P G vwCl [(q1, .inr (7, [.int u10, .int u11, .int u12]))] H := hP
          have hD : va_D A [(q1, .inr (7, [.int u10, .int u11, .int u12]))] := hD
          exact hret (u10, u11, u12) _ _ _ _ _ h (hP.sub [0] rfl) (hD.sub [0] (by decide) rfl) hS d_Piece_then_72
    · replace h := h.2 hc
      refine lv_aload_n hx hb d_Piece_then_34 rfl (lv_at hl 0 rfl) ?_
      refine va_get (ci := 7) (v := .int v_o_last) hx hb htg in_Piece hown hK (gR hR rN hS) 0 rfl rfl 1 (by decide) (htg _ m_37) (fun _ h9 => h9) rfl d_Piece_then_35 ?_
      refine lv_aload_n hx hb d_Piece_then_38 rfl (lv_at hl 1 rfl) ?_
      refine va_get (ci := 7) (v := .int v_p1_last) hx hb htg in_Piece hown hK (gR hR rN hS) 1 rfl rfl 1 (by decide) (htg _ m_37) (fun _ h9 => h9) rfl d_Piece_then_39 ?_
      refine lv_ior hx hb d_Piece_then_42 ?_
      refine lv_goto (tgt := 50) hx hb d_Piece_then_43 (by decide) ?_
      refine lv_aload_n hx hb d_Piece_then_50 rfl (lv_at hl 0 rfl) ?_
      refine va_get (ci := 7) (v := .int v_o_matchesEmpty) hx hb htg in_Piece hown hK (gR hR rN hS) 0 rfl rfl 2 (by decide) (htg _ m_38) (fun _ h9 => h9) rfl d_Piece_then_51 ?_
      refine lv_if_eq (tgt := 68) hx hb d_Piece_then_54 (by decide) (fun hc => ?_) (fun hc => ?_)
      · replace h := h.1 hc
        refine lv_iconst (v := 0) hx hb d_Piece_then_68 (by decide) ?_
        have hPc : va_P G vwCl [(q1, .inr (7, [.int 0, .int 0, .int 0]))] _ := hP.sub [0] rfl
        have hDc : va_D A [(q1, .inr (7, [.int 0, .int 0, .int 0]))] := hD.sub [0] (by decide) rfl
        have hRc : va_P G vwCl [] _ := hP.sub [] rfl
        have hJc : gJ [(q1, .inr (7, [.int 0, .int 0, .int 0]))] [] := gJ_nil
        refine g_callv (wr := []) (va_runI (As := [.int v_o_first, .int (v_o_last ||| v_p1_last), .int 0]) (rest := [.ref q1]) ⟨hx, hb, hml, hown, htg⟩ (k_Piece_init l G K q1 _ v_o_first (v_o_last ||| v_p1_last) 0 _ h) (cwI 3 htg (gGood m_34) rfl rfl rfl (htg _ m_3) (htg _ m_254) (htg _ m_33) rfl (by decide +kernel) ⟨(Nat.le_of_ble_eq_true rfl), (Nat.le_of_ble_eq_true rfl)⟩) (gW_pre hK hN hPc hDc hRc hJc) rfl rfl hl.1 rfl (lv_room (Nat.le_of_ble_eq_true rfl)) d_Piece_then_69 ⟨(Nat.le_of_ble_eq_true rfl), (Nat.le_of_ble_eq_true rfl)⟩) hP hD hS hA [0] [] rfl rfl (by decide) (by decide) (fun u H locs h hP hD hS => ?_)
        obtain ⟨u14, u15, u16⟩ := u
        try dsimp only at h
        have hP : va_P G vwCl [(q1, .inr (7, [.int u14, .int u15, .int u16]))] H := hP
        have hD : va_D A [(q1, .inr (7, [.int u14, .int u15, .int u16]))] := hD
        exact hret (u14, u15, u16) _ _ _ _ _ h (hP.sub [0] rfl) (hD.sub [0] (by decide) rfl) hS d_Piece_then_72
      · replace h := h.2 hc
        refine lv_aload_n hx hb d_Piece_then_57 rfl (lv_at hl 1 rfl) ?_
        refine va_get (ci := 7) (v := .int v_p1_matchesEmpty) hx hb htg in_Piece hown hK (gR hR rN hS) 1 rfl rfl 2 (by decide) (htg _ m_38) (fun _ h9 => h9) rfl d_Piece_then_58 ?_
        refine lv_if_eq (tgt := 68) hx hb d_Piece_then_61 (by decide) (fun hc => ?_) (fun hc => ?_)
        · replace h := h.1 hc
          refine lv_iconst (v := 0) hx hb d_Piece_then_68 (by decide) ?_
          have hPc : va_P G vwCl [(q1, .inr (7, [.int 0, .int 0, .int 0]))] _ := hP.sub [0] rfl
          have hDc : va_D A [(q1, .inr (7, [.int 0, .int 0, .int 0]))] := hD.sub [0] (by decide) rfl
          have hRc : va_P G vwCl [] _ := hP.sub [] rfl
          have hJc : gJ [(q1, .inr (7, [.int 0, .int 0, .int 0]))] [] := gJ_nil
          refine g_callv (wr := []) (va_runI (As := [.int v_o_first, .int (v_o_last ||| v_p1_last), .int 0]) (rest := [.ref q1]) ⟨hx, hb, hml, hown, htg⟩ (k_Piece_init l G K q1 _ v_o_first (v_o_last ||| v_p1_last) 0 _ h) (cwI 3 htg (gGood m_34) rfl rfl rfl (htg _ m_3) (htg _ m_254) (htg _ m_33) rfl (by decide +kernel) ⟨(Nat.le_of_ble_eq_true rfl), (Nat.le_of_ble_eq_true rfl)⟩) (gW_pre hK hN hPc hDc hRc hJc) rfl rfl hl.1 rfl (lv_room (Nat.le_of_ble_eq_true rfl)) d_Piece_then_69 ⟨(Nat.le_of_ble_eq_true rfl), (Nat.le_of_ble_eq_true rfl)⟩) hP hD hS hA [0] [] rfl rfl (by decide) (by decide) (fun u H locs h hP hD hS => ?_)
          obtain ⟨u18, u19, u20⟩ := u
          try dsimp only at h
          have hP : va_P G vwCl [(q1, .inr (7, [.int u18, .int u19, .int u20]))] H := hP
          have hD : va_D A [(q1, .inr (7, [.int u18, .int u19, .int u20]))] := hD
          exact hret (u18, u19, u20) _ _ _ _ _ h (hP.sub [0] rfl) (hD.sub [0] (by decide) rfl) hS d_Piece_then_72
        · replace h := h.2 hc
          refine lv_iconst (v := 1) hx hb d_Piece_then_64 (by decide) ?_
          refine lv_goto (tgt := 69) hx hb d_Piece_then_65 (by decide) ?_
          have hPc : va_P G vwCl [(q1, .inr (7, [.int 0, .int 0, .int 0]))] _ := hP.sub [0] rfl
          have hDc : va_D A [(q1, .inr (7, [.int 0, .int 0, .int 0]))] := hD.sub [0] (by decide) rfl
          have hRc : va_P G vwCl [] _ := hP.sub [] rfl
          have hJc : gJ [(q1, .inr (7, [.int 0, .int 0, .int 0]))] [] := gJ_nil
          refine g_callv (wr := []) (va_runI (As := [.int v_o_first, .int (v_o_last ||| v_p1_last), .int 1]) (rest := [.ref q1]) ⟨hx, hb, hml, hown, htg⟩ (k_Piece_init l G K q1 _ v_o_first (v_o_last ||| v_p1_last) 1 _ h) (cwI 3 htg (gGood m_34) rfl rfl rfl (htg _ m_3) (htg _ m_254) (htg _ m_33) rfl (by decide +kernel) ⟨(Nat.le_of_ble_eq_true rfl), (Nat.le_of_ble_eq_true rfl)⟩) (gW_pre hK hN hPc hDc hRc hJc) rfl rfl hl.1 rfl (lv_room (Nat.le_of_ble_eq_true rfl)) d_Piece_then_69 ⟨(Nat.le_of_ble_eq_true rfl), (Nat.le_of_ble_eq_true rfl)⟩) hP hD hS hA [0] [] rfl rfl (by decide) (by decide) (fun u H locs h hP hD hS => ?_)
          obtain ⟨u22, u23, u24⟩ := u
          try dsimp only at h
          have hP : va_P G vwCl [(q1, .inr (7, [.int u22, .int u23, .int u24]))] H := hP
          have hD : va_D A [(q1, .inr (7, [.int u22, .int u23, .int u24]))] := hD
          exact hret (u22, u23, u24) _ _ _ _ _ h (hP.sub [0] rfl) (hD.sub [0] (by decide) rfl) hS d_Piece_then_72
  · replace h := h.2 hc
    refine lv_aload_n hx hb d_Piece_then_11 rfl (lv_at hl 0 rfl) ?_
    refine va_get (ci := 7) (v := .int v_o_first) hx hb htg in_Piece hown hK (gR hR rN hS) 0 rfl rfl 0 (by decide) (htg _ m_36) (fun _ h9 => h9) rfl d_Piece_then_12 ?_
    refine lv_aload_n hx hb d_Piece_then_15 rfl (lv_at hl 1 rfl) ?_
    refine va_get (ci := 7) (v := .int v_p1_first) hx hb htg in_Piece hown hK (gR hR rN hS) 1 rfl rfl 0 (by decide) (htg _ m_36) (fun _ h9 => h9) rfl d_Piece_then_16 ?_
    refine lv_ior hx hb d_Piece_then_19 ?_
    refine lv_goto (tgt := 27) hx hb d_Piece_then_20 (by decide) ?_
    refine lv_aload_n hx hb d_Piece_then_27 rfl (lv_at hl 1 rfl) ?_
    refine va_get (ci := 7) (v := .int v_p1_matchesEmpty) hx hb htg in_Piece hown hK (gR hR rN hS) 1 rfl rfl 2 (by decide) (htg _ m_38) (fun _ h9 => h9) rfl d_Piece_then_28 ?_
    refine lv_if_eq (tgt := 46) hx hb d_Piece_then_31 (by decide) (fun hc => ?_) (fun hc => ?_)
    · replace h := h.1 hc
      refine lv_aload_n hx hb d_Piece_then_46 rfl (lv_at hl 1 rfl) ?_
      refine va_get (ci := 7) (v := .int v_p1_last) hx hb htg in_Piece hown hK (gR hR rN hS) 1 rfl rfl 1 (by decide) (htg _ m_37) (fun _ h9 => h9) rfl d_Piece_then_47 ?_
      refine lv_aload_n hx hb d_Piece_then_50 rfl (lv_at hl 0 rfl) ?_
      refine va_get (ci := 7) (v := .int v_o_matchesEmpty) hx hb htg in_Piece hown hK (gR hR rN hS) 0 rfl rfl 2 (by decide) (htg _ m_38) (fun _ h9 => h9) rfl d_Piece_then_51 ?_
      refine lv_if_eq (tgt := 68) hx hb d_Piece_then_54 (by decide) (fun hc => ?_) (fun hc => ?_)
      · replace h := h.1 hc
        refine lv_iconst (v := 0) hx hb d_Piece_then_68 (by decide) ?_
        have hPc : va_P G vwCl [(q1, .inr (7, [.int 0, .int 0, .int 0]))] _ := hP.sub [0] rfl
        have hDc : va_D A [(q1, .inr (7, [.int 0, .int 0, .int 0]))] := hD.sub [0] (by decide) rfl
        have hRc : va_P G vwCl [] _ := hP.sub [] rfl
        have hJc : gJ [(q1, .inr (7, [.int 0, .int 0, .int 0]))] [] := gJ_nil
        refine g_callv (wr := []) (va_runI (As := [.int (v_o_first ||| v_p1_first), .int v_p1_last, .int 0]) (rest := [.ref q1]) ⟨hx, hb, hml, hown, htg⟩ (k_Piece_init l G K q1 _ (v_o_first ||| v_p1_first) v_p1_last 0 _ h) (cwI 3 htg (gGood m_34) rfl rfl rfl (htg _ m_3) (htg _ m_254) (htg _ m_33) rfl (by decide +kernel) ⟨(Nat.le_of_ble_eq_true rfl), (Nat.le_of_ble_eq_true rfl)⟩) (gW_pre hK hN hPc hDc hRc hJc) rfl rfl hl.1 rfl (lv_room (Nat.le_of_ble_eq_true rfl)) d_Piece_then_69 ⟨(Nat.le_of_ble_eq_true rfl), (Nat.le_of_ble_eq_true rfl)⟩) hP hD hS hA [0] [] rfl rfl (by decide) (by decide) (fun u H locs h hP hD hS => ?_)
        obtain ⟨u26, u27, u28⟩ := u
        try dsimp only at h
        have hP : va_P G vwCl [(q1, .inr (7, [.int u26, .int u27, .int u28]))] H := hP
        have hD : va_D A [(q1, .inr (7, [.int u26, .int u27, .int u28]))] := hD
        exact hret (u26, u27, u28) _ _ _ _ _ h (hP.sub [0] rfl) (hD.sub [0] (by decide) rfl) hS d_Piece_then_72
      · replace h := h.2 hc
        refine lv_aload_n hx hb d_Piece_then_57 rfl (lv_at hl 1 rfl) ?_
        refine va_get (ci := 7) (v := .int v_p1_matchesEmpty) hx hb htg in_Piece hown hK (gR hR rN hS) 1 rfl rfl 2 (by decide) (htg _ m_38) (fun _ h9 => h9) rfl d_Piece_then_58 ?_
        refine lv_if_eq (tgt := 68) hx hb d_Piece_then_61 (by decide) (fun hc => ?_) (fun hc => ?_)
        · replace h := h.1 hc
          refine lv_iconst (v := 0) hx hb d_Piece_then_68 (by decide) ?_
          have hPc : va_P G vwCl [(q1, .inr (7, [.int 0, .int 0, .int 0]))] _ := hP.sub [0] rfl
          have hDc : va_D A [(q1, .inr (7, [.int 0, .int 0, .int 0]))] := hD.sub [0] (by decide) rfl
          have hRc : va_P G vwCl [] _ := hP.sub [] rfl
          have hJc : gJ [(q1, .inr (7, [.int 0, .int 0, .int 0]))] [] := gJ_nil
          refine g_callv (wr := []) (va_runI (As := [.int (v_o_first ||| v_p1_first), .int v_p1_last, .int 0]) (rest := [.ref q1]) ⟨hx, hb, hml, hown, htg⟩ (k_Piece_init l G K q1 _ (v_o_first ||| v_p1_first) v_p1_last 0 _ h) (cwI 3 htg (gGood m_34) rfl rfl rfl (htg _ m_3) (htg _ m_254) (htg _ m_33) rfl (by decide +kernel) ⟨(Nat.le_of_ble_eq_true rfl), (Nat.le_of_ble_eq_true rfl)⟩) (gW_pre hK hN hPc hDc hRc hJc) rfl rfl hl.1 rfl (lv_room (Nat.le_of_ble_eq_true rfl)) d_Piece_then_69 ⟨(Nat.le_of_ble_eq_true rfl), (Nat.le_of_ble_eq_true rfl)⟩) hP hD hS hA [0] [] rfl rfl (by decide) (by decide) (fun u H locs h hP hD hS => ?_)
          obtain ⟨u30, u31, u32⟩ := u
          try dsimp only at h
          have hP : va_P G vwCl [(q1, .inr (7, [.int u30, .int u31, .int u32]))] H := hP
          have hD : va_D A [(q1, .inr (7, [.int u30, .int u31, .int u32]))] := hD
          exact hret (u30, u31, u32) _ _ _ _ _ h (hP.sub [0] rfl) (hD.sub [0] (by decide) rfl) hS d_Piece_then_72
        · replace h := h.2 hc
          refine lv_iconst (v := 1) hx hb d_Piece_then_64 (by decide) ?_
          refine lv_goto (tgt := 69) hx hb d_Piece_then_65 (by decide) ?_
          have hPc : va_P G vwCl [(q1, .inr (7, [.int 0, .int 0, .int 0]))] _ := hP.sub [0] rfl
          have hDc : va_D A [(q1, .inr (7, [.int 0, .int 0, .int 0]))] := hD.sub [0] (by decide) rfl
          have hRc : va_P G vwCl [] _ := hP.sub [] rfl
          have hJc : gJ [(q1, .inr (7, [.int 0, .int 0, .int 0]))] [] := gJ_nil
          refine g_callv (wr := []) (va_runI (As := [.int (v_o_first ||| v_p1_first), .int v_p1_last, .int 1]) (rest := [.ref q1]) ⟨hx, hb, hml, hown, htg⟩ (k_Piece_init l G K q1 _ (v_o_first ||| v_p1_first) v_p1_last 1 _ h) (cwI 3 htg (gGood m_34) rfl rfl rfl (htg _ m_3) (htg _ m_254) (htg _ m_33) rfl (by decide +kernel) ⟨(Nat.le_of_ble_eq_true rfl), (Nat.le_of_ble_eq_true rfl)⟩) (gW_pre hK hN hPc hDc hRc hJc) rfl rfl hl.1 rfl (lv_room (Nat.le_of_ble_eq_true rfl)) d_Piece_then_69 ⟨(Nat.le_of_ble_eq_true rfl), (Nat.le_of_ble_eq_true rfl)⟩) hP hD hS hA [0] [] rfl rfl (by decide) (by decide) (fun u H locs h hP hD hS => ?_)
          obtain ⟨u34, u35, u36⟩ := u
          try dsimp only at h
          have hP : va_P G vwCl [(q1, .inr (7, [.int u34, .int u35, .int u36]))] H := hP
          have hD : va_D A [(q1, .inr (7, [.int u34, .int u35, .int u36]))] := hD
          exact hret (u34, u35, u36) _ _ _ _ _ h (hP.sub [0] rfl) (hD.sub [0] (by decide) rfl) hS d_Piece_then_72
    · replace h := h.2 hc
      refine lv_aload_n hx hb d_Piece_then_34 rfl (lv_at hl 0 rfl) ?_
      refine va_get (ci := 7) (v := .int v_o_last) hx hb htg in_Piece hown hK (gR hR rN hS) 0 rfl rfl 1 (by decide) (htg _ m_37) (fun _ h9 => h9) rfl d_Piece_then_35 ?_
      refine lv_aload_n hx hb d_Piece_then_38 rfl (lv_at hl 1 rfl) ?_
      refine va_get (ci := 7) (v := .int v_p1_last) hx hb htg in_Piece hown hK (gR hR rN hS) 1 rfl rfl 1 (by decide) (htg _ m_37) (fun _ h9 => h9) rfl d_Piece_then_39 ?_
      refine lv_ior hx hb d_Piece_then_42 ?_
      refine lv_goto (tgt := 50) hx hb d_Piece_then_43 (by decide) ?_
      refine lv_aload_n hx hb d_Piece_then_50 rfl (lv_at hl 0 rfl) ?_
      refine va_get (ci := 7) (v := .int v_o_matchesEmpty) hx hb htg in_Piece hown hK (gR hR rN hS) 0 rfl rfl 2 (by decide) (htg _ m_38) (fun _ h9 => h9) rfl d_Piece_then_51 ?_
      refine lv_if_eq (tgt := 68) hx hb d_Piece_then_54 (by decide) (fun hc => ?_) (fun hc => ?_)
      · replace h := h.1 hc
        refine lv_iconst (v := 0) hx hb d_Piece_then_68 (by decide) ?_
        have hPc : va_P G vwCl [(q1, .inr (7, [.int 0, .int 0, .int 0]))] _ := hP.sub [0] rfl
        have hDc : va_D A [(q1, .inr (7, [.int 0, .int 0, .int 0]))] := hD.sub [0] (by decide) rfl
        have hRc : va_P G vwCl [] _ := hP.sub [] rfl
        have hJc : gJ [(q1, .inr (7, [.int 0, .int 0, .int 0]))] [] := gJ_nil
        refine g_callv (wr := []) (va_runI (As := [.int (v_o_first ||| v_p1_first), .int (v_o_last ||| v_p1_last), .int 0]) (rest := [.ref q1]) ⟨hx, hb, hml, hown, htg⟩ (k_Piece_init l G K q1 _ (v_o_first ||| v_p1_first) (v_o_last ||| v_p1_last) 0 _ h) (cwI 3 htg (gGood m_34) rfl rfl rfl (htg _ m_3) (htg _ m_254) (htg _ m_33) rfl (by decide +kernel) ⟨(Nat.le_of_ble_eq_true rfl), (Nat.le_of_ble_eq_true rfl)⟩) (gW_pre hK hN hPc hDc hRc hJc) rfl rfl hl.1 rfl (lv_room (Nat.le_of_ble_eq_true rfl)) d_Piece_then_69 ⟨(Nat.le_of_ble_eq_true rfl), (Nat.le_of_ble_eq_true rfl)⟩) hP hD hS hA [0] [] rfl rfl (by decide) (by decide) (fun u H locs h hP hD hS => ?_)
        obtain ⟨u38, u39, u40⟩ := u
        try dsimp only at h
        have hP : va_P G vwCl [(q1, .inr (7, [.int u38, .int u39, .int u40]))] H := hP
        have hD : va_D A [(q1, .inr (7, [.int u38, .int u39, .int u40]))] := hD
        exact hret (u38, u39, u40) _ _ _ _ _ h (hP.sub [0] rfl) (hD.sub [0] (by decide) rfl) hS d_Piece_then_72
      · replace h := h.2 hc
        refine lv_aload_n hx hb d_Piece_then_57 rfl (lv_at hl 1 rfl) ?_
        refine va_get (ci := 7) (v := .int v_p1_matchesEmpty) hx hb htg in_Piece hown hK (gR hR rN hS) 1 rfl rfl 2 (by decide) (htg _ m_38) (fun _ h9 => h9) rfl d_Piece_then_58 ?_
        refine lv_if_eq (tgt := 68) hx hb d_Piece_then_61 (by decide) (fun hc => ?_) (fun hc => ?_)
        · replace h := h.1 hc
          refine lv_iconst (v := 0) hx hb d_Piece_then_68 (by decide) ?_
          have hPc : va_P G vwCl [(q1, .inr (7, [.int 0, .int 0, .int 0]))] _ := hP.sub [0] rfl
          have hDc : va_D A [(q1, .inr (7, [.int 0, .int 0, .int 0]))] := hD.sub [0] (by decide) rfl
          have hRc : va_P G vwCl [] _ := hP.sub [] rfl
          have hJc : gJ [(q1, .inr (7, [.int 0, .int 0, .int 0]))] [] := gJ_nil
          refine g_callv (wr := []) (va_runI (As := [.int (v_o_first ||| v_p1_first), .int (v_o_last ||| v_p1_last), .int 0]) (rest := [.ref q1]) ⟨hx, hb, hml, hown, htg⟩ (k_Piece_init l G K q1 _ (v_o_first ||| v_p1_first) (v_o_last ||| v_p1_last) 0 _ h) (cwI 3 htg (gGood m_34) rfl rfl rfl (htg _ m_3) (htg _ m_254) (htg _ m_33) rfl (by decide +kernel) ⟨(Nat.le_of_ble_eq_true rfl), (Nat.le_of_ble_eq_true rfl)⟩) (gW_pre hK hN hPc hDc hRc hJc) rfl rfl hl.1 rfl (lv_room (Nat.le_of_ble_eq_true rfl)) d_Piece_then_69 ⟨(Nat.le_of_ble_eq_true rfl), (Nat.le_of_ble_eq_true rfl)⟩) hP hD hS hA [0] [] rfl rfl (by decide) (by decide) (fun u H locs h hP hD hS => ?_)
          obtain ⟨u42, u43, u44⟩ := u
          try dsimp only at h
          have hP : va_P G vwCl [(q1, .inr (7, [.int u42, .int u43, .int u44]))] H := hP
          have hD : va_D A [(q1, .inr (7, [.int u42, .int u43, .int u44]))] := hD
          exact hret (u42, u43, u44) _ _ _ _ _ h (hP.sub [0] rfl) (hD.sub [0] (by decide) rfl) hS d_Piece_then_72
        · replace h := h.2 hc
          refine lv_iconst (v := 1) hx hb d_Piece_then_64 (by decide) ?_
          refine lv_goto (tgt := 69) hx hb d_Piece_then_65 (by decide) ?_
          have hPc : va_P G vwCl [(q1, .inr (7, [.int 0, .int 0, .int 0]))] _ := hP.sub [0] rfl
          have hDc : va_D A [(q1, .inr (7, [.int 0, .int 0, .int 0]))] := hD.sub [0] (by decide) rfl
          have hRc : va_P G vwCl [] _ := hP.sub [] rfl
          have hJc : gJ [(q1, .inr (7, [.int 0, .int 0, .int 0]))] [] := gJ_nil
          refine g_callv (wr := []) (va_runI (As := [.int (v_o_first ||| v_p1_first), .int (v_o_last ||| v_p1_last), .int 1]) (rest := [.ref q1]) ⟨hx, hb, hml, hown, htg⟩ (k_Piece_init l G K q1 _ (v_o_first ||| v_p1_first) (v_o_last ||| v_p1_last) 1 _ h) (cwI 3 htg (gGood m_34) rfl rfl rfl (htg _ m_3) (htg _ m_254) (htg _ m_33) rfl (by decide +kernel) ⟨(Nat.le_of_ble_eq_true rfl), (Nat.le_of_ble_eq_true rfl)⟩) (gW_pre hK hN hPc hDc hRc hJc) rfl rfl hl.1 rfl (lv_room (Nat.le_of_ble_eq_true rfl)) d_Piece_then_69 ⟨(Nat.le_of_ble_eq_true rfl), (Nat.le_of_ble_eq_true rfl)⟩) hP hD hS hA [0] [] rfl rfl (by decide) (by decide) (fun u H locs h hP hD hS => ?_)
          obtain ⟨u46, u47, u48⟩ := u
          try dsimp only at h
          have hP : va_P G vwCl [(q1, .inr (7, [.int u46, .int u47, .int u48]))] H := hP
          have hD : va_D A [(q1, .inr (7, [.int u46, .int u47, .int u48]))] := hD
          exact hret (u46, u47, u48) _ _ _ _ _ h (hP.sub [0] rfl) (hD.sub [0] (by decide) rfl) hS d_Piece_then_72
def p_Piece_orEmpty (v_o_first : Int32) (v_o_last : Int32) (post : Int32 → Int32 → Int32 → Prop) : Prop := (p_Piece_init v_o_first v_o_last 1 (fun u2 u3 u4 => (post u2 u3 u4)))
set_option maxHeartbeats 4000000 in
set_option maxRecDepth 100000 in
theorem k_Piece_orEmpty (l : Launch) (G : va_G) (K : Nat → ClassId) (a0 : Nat) (sz : Nat) (v_o_first : Int32) (v_o_last : Int32) (v_o_matchesEmpty : Int32) (post : Int32 → Int32 → Int32 → Prop) (h : p_Piece_orEmpty v_o_first v_o_last post) : MWr l y_Piece_orEmpty (.code y_Piece_orEmpty c_Piece_orEmpty 1 (some (.object "TokenBench$Piece"))) { frames := 2, cells := 1, slots := 3, locals := 43 } G K [] [(a0, .inr (7, [.int v_o_first, .int v_o_last, .int v_o_matchesEmpty]))] [.ref a0] sz (fun (u : Int32 × Int32 × Int32) => post u.1 u.2.1 u.2.2) (fun u ra => [(ra, .inr (7, [.int u.1, .int u.2.1, .int u.2.2]))]) 1 3 := by
  refine g_metWr (cc := c_Piece_orEmpty) (maxL := 1) (ret := some (.object "TokenBench$Piece")) (by decide) rfl rfl (Nat.le_of_ble_eq_true rfl) ?_
  intro p e s m below meth c A Q hx hb hml hown hname htg hK hN hP hD hA hS hR rN hret ls hl
  have hl : lv_has ls 1 [(0, .ref a0)] := hl
  refine va_new (ci := 7) (fs := [.int 0, .int 0, .int 0]) hx hb htg in_Piece t_Piece tok_Piece hown (htg _ m_253) (htg _ m_31) (htg _ m_3) hK hP hD hS hA rfl (fun j hj => by rcases (show j = 0 ∨ j = 1 ∨ j = 2 by omega) with rfl | rfl | rfl <;> rfl) (Nat.le_of_ble_eq_true rfl) (Nat.le_of_ble_eq_true rfl) d_Piece_orEmpty_0 (fun q1 H hP hD hS => ?_)
  have hP : va_P G vwCl [(q1, .inr (7, [.int 0, .int 0, .int 0]))] H := hP
  have hD : va_D A [(q1, .inr (7, [.int 0, .int 0, .int 0]))] := hD
  refine lv_dup hx hb d_Piece_orEmpty_3 rfl ?_
  refine lv_aload_n hx hb d_Piece_orEmpty_4 rfl (lv_at hl 0 rfl) ?_
  refine va_get (ci := 7) (v := .int v_o_first) hx hb htg in_Piece hown hK (gR hR rN hS) 0 rfl rfl 0 (by decide) (htg _ m_36) (fun _ h9 => h9) rfl d_Piece_orEmpty_5 ?_
  refine lv_aload_n hx hb d_Piece_orEmpty_8 rfl (lv_at hl 0 rfl) ?_
  refine va_get (ci := 7) (v := .int v_o_last) hx hb htg in_Piece hown hK (gR hR rN hS) 0 rfl rfl 1 (by decide) (htg _ m_37) (fun _ h9 => h9) rfl d_Piece_orEmpty_9 ?_
  refine lv_iconst (v := 1) hx hb d_Piece_orEmpty_12 (by decide) ?_
  have hPc : va_P G vwCl [(q1, .inr (7, [.int 0, .int 0, .int 0]))] _ := hP.sub [0] rfl
  have hDc : va_D A [(q1, .inr (7, [.int 0, .int 0, .int 0]))] := hD.sub [0] (by decide) rfl
  have hRc : va_P G vwCl [] _ := hP.sub [] rfl
  have hJc : gJ [(q1, .inr (7, [.int 0, .int 0, .int 0]))] [] := gJ_nil
  refine g_callv (wr := []) (va_runI (As := [.int v_o_first, .int v_o_last, .int 1]) (rest := [.ref q1]) ⟨hx, hb, hml, hown, htg⟩ (k_Piece_init l G K q1 _ v_o_first v_o_last 1 _ h) (cwI 3 htg (gGood m_34) rfl rfl rfl (htg _ m_3) (htg _ m_254) (htg _ m_33) rfl (by decide +kernel) ⟨(Nat.le_of_ble_eq_true rfl), (Nat.le_of_ble_eq_true rfl)⟩) (gW_pre hK hN hPc hDc hRc hJc) rfl rfl hl.1 rfl (lv_room (Nat.le_of_ble_eq_true rfl)) d_Piece_orEmpty_13 ⟨(Nat.le_of_ble_eq_true rfl), (Nat.le_of_ble_eq_true rfl)⟩) hP hD hS hA [0] [] rfl rfl (by decide) (by decide) (fun u H locs h hP hD hS => ?_)
  obtain ⟨u2, u3, u4⟩ := u
  try dsimp only at h
  have hP : va_P G vwCl [(q1, .inr (7, [.int u2, .int u3, .int u4]))] H := hP
  have hD : va_D A [(q1, .inr (7, [.int u2, .int u3, .int u4]))] := hD
  exact hret (u2, u3, u4) _ _ _ _ _ h (hP.sub [0] rfl) (hD.sub [0] (by decide) rfl) hS d_Piece_orEmpty_16
