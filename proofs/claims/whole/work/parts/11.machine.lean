theorem d_Machine_init_0 : decode c_Machine_init 0 = .ok (.aload_n 0, 1) := by decide +kernel
theorem d_Machine_init_1 : decode c_Machine_init 1 = .ok (.invokespecial 3, 3) := by decide +kernel
theorem d_Machine_init_4 : decode c_Machine_init 4 = .ok (.aload_n 0, 1) := by decide +kernel
theorem d_Machine_init_5 : decode c_Machine_init 5 = .ok (.iconst (-1), 1) := by decide +kernel
theorem d_Machine_init_6 : decode c_Machine_init 6 = .ok (.putfield 9, 3) := by decide +kernel
theorem d_Machine_init_9 : decode c_Machine_init 9 = .ok (.aload_n 0, 1) := by decide +kernel
theorem d_Machine_init_10 : decode c_Machine_init 10 = .ok (.iconst 0, 1) := by decide +kernel
theorem d_Machine_init_11 : decode c_Machine_init 11 = .ok (.putfield 15, 3) := by decide +kernel
theorem d_Machine_init_14 : decode c_Machine_init 14 = .ok (.aload_n 0, 1) := by decide +kernel
theorem d_Machine_init_15 : decode c_Machine_init 15 = .ok (.aload_n 1, 1) := by decide +kernel
theorem d_Machine_init_16 : decode c_Machine_init 16 = .ok (.putfield 19, 3) := by decide +kernel
theorem d_Machine_init_19 : decode c_Machine_init 19 = .ok (.aload_n 0, 1) := by decide +kernel
theorem d_Machine_init_20 : decode c_Machine_init 20 = .ok (.aload_n 2, 1) := by decide +kernel
theorem d_Machine_init_21 : decode c_Machine_init 21 = .ok (.putfield 23, 3) := by decide +kernel
theorem d_Machine_init_24 : decode c_Machine_init 24 = .ok (.return_, 1) := by decide +kernel
theorem d_Machine_size_0 : decode c_Machine_size 0 = .ok (.aload_n 0, 1) := by decide +kernel
theorem d_Machine_size_1 : decode c_Machine_size 1 = .ok (.getfield 23, 3) := by decide +kernel
theorem d_Machine_size_4 : decode c_Machine_size 4 = .ok (.arraylength, 1) := by decide +kernel
theorem d_Machine_size_5 : decode c_Machine_size 5 = .ok (.ireturn, 1) := by decide +kernel
theorem d_Machine_hasState_0 : decode c_Machine_hasState 0 = .ok (.iload_n 1, 1) := by decide +kernel
theorem d_Machine_hasState_1 : decode c_Machine_hasState 1 = .ok (.ifCond .lt 16, 3) := by decide +kernel
theorem d_Machine_hasState_4 : decode c_Machine_hasState 4 = .ok (.iload_n 1, 1) := by decide +kernel
theorem d_Machine_hasState_5 : decode c_Machine_hasState 5 = .ok (.aload_n 0, 1) := by decide +kernel
theorem d_Machine_hasState_6 : decode c_Machine_hasState 6 = .ok (.getfield 23, 3) := by decide +kernel
theorem d_Machine_hasState_9 : decode c_Machine_hasState 9 = .ok (.arraylength, 1) := by decide +kernel
theorem d_Machine_hasState_10 : decode c_Machine_hasState 10 = .ok (.if_icmp .ge 7, 3) := by decide +kernel
theorem d_Machine_hasState_13 : decode c_Machine_hasState 13 = .ok (.iconst 1, 1) := by decide +kernel
theorem d_Machine_hasState_14 : decode c_Machine_hasState 14 = .ok (.goto 4, 3) := by decide +kernel
theorem d_Machine_hasState_17 : decode c_Machine_hasState 17 = .ok (.iconst 0, 1) := by decide +kernel
theorem d_Machine_hasState_18 : decode c_Machine_hasState 18 = .ok (.ireturn, 1) := by decide +kernel
theorem d_Machine_after_0 : decode c_Machine_after 0 = .ok (.aload_n 0, 1) := by decide +kernel
theorem d_Machine_after_1 : decode c_Machine_after 1 = .ok (.iload_n 1, 1) := by decide +kernel
theorem d_Machine_after_2 : decode c_Machine_after 2 = .ok (.invokevirtual 26, 3) := by decide +kernel
theorem d_Machine_after_5 : decode c_Machine_after 5 = .ok (.ifCond .eq 17, 3) := by decide +kernel
theorem d_Machine_after_8 : decode c_Machine_after 8 = .ok (.iload_n 2, 1) := by decide +kernel
theorem d_Machine_after_9 : decode c_Machine_after 9 = .ok (.ifCond .lt 13, 3) := by decide +kernel
theorem d_Machine_after_12 : decode c_Machine_after 12 = .ok (.iload_n 2, 1) := by decide +kernel
theorem d_Machine_after_13 : decode c_Machine_after 13 = .ok (.bipush 6, 2) := by decide +kernel
theorem d_Machine_after_15 : decode c_Machine_after 15 = .ok (.if_icmp .ge 7, 3) := by decide +kernel
theorem d_Machine_after_18 : decode c_Machine_after 18 = .ok (.iconst 1, 1) := by decide +kernel
theorem d_Machine_after_19 : decode c_Machine_after 19 = .ok (.goto 4, 3) := by decide +kernel
theorem d_Machine_after_22 : decode c_Machine_after 22 = .ok (.iconst 0, 1) := by decide +kernel
theorem d_Machine_after_23 : decode c_Machine_after 23 = .ok (.istore_n 3, 1) := by decide +kernel
theorem d_Machine_after_24 : decode c_Machine_after 24 = .ok (.iload_n 3, 1) := by decide +kernel
theorem d_Machine_after_25 : decode c_Machine_after 25 = .ok (.ifCond .eq 17, 3) := by decide +kernel
theorem d_Machine_after_28 : decode c_Machine_after 28 = .ok (.aload_n 0, 1) := by decide +kernel
theorem d_Machine_after_29 : decode c_Machine_after 29 = .ok (.getfield 19, 3) := by decide +kernel
theorem d_Machine_after_32 : decode c_Machine_after 32 = .ok (.iload_n 1, 1) := by decide +kernel
theorem d_Machine_after_33 : decode c_Machine_after 33 = .ok (.bipush 6, 2) := by decide +kernel
theorem d_Machine_after_35 : decode c_Machine_after 35 = .ok (.imul, 1) := by decide +kernel
theorem d_Machine_after_36 : decode c_Machine_after 36 = .ok (.iload_n 2, 1) := by decide +kernel
theorem d_Machine_after_37 : decode c_Machine_after 37 = .ok (.iadd, 1) := by decide +kernel
theorem d_Machine_after_38 : decode c_Machine_after 38 = .ok (.iaload, 1) := by decide +kernel
theorem d_Machine_after_39 : decode c_Machine_after 39 = .ok (.goto 4, 3) := by decide +kernel
theorem d_Machine_after_42 : decode c_Machine_after 42 = .ok (.iconst (-1), 1) := by decide +kernel
theorem d_Machine_after_43 : decode c_Machine_after 43 = .ok (.ireturn, 1) := by decide +kernel
theorem d_Machine_winnerOf_0 : decode c_Machine_winnerOf 0 = .ok (.aload_n 0, 1) := by decide +kernel
theorem d_Machine_winnerOf_1 : decode c_Machine_winnerOf 1 = .ok (.iload_n 1, 1) := by decide +kernel
theorem d_Machine_winnerOf_2 : decode c_Machine_winnerOf 2 = .ok (.invokevirtual 26, 3) := by decide +kernel
theorem d_Machine_winnerOf_5 : decode c_Machine_winnerOf 5 = .ok (.ifCond .eq 12, 3) := by decide +kernel
theorem d_Machine_winnerOf_8 : decode c_Machine_winnerOf 8 = .ok (.aload_n 0, 1) := by decide +kernel
theorem d_Machine_winnerOf_9 : decode c_Machine_winnerOf 9 = .ok (.getfield 23, 3) := by decide +kernel
theorem d_Machine_winnerOf_12 : decode c_Machine_winnerOf 12 = .ok (.iload_n 1, 1) := by decide +kernel
theorem d_Machine_winnerOf_13 : decode c_Machine_winnerOf 13 = .ok (.iaload, 1) := by decide +kernel
theorem d_Machine_winnerOf_14 : decode c_Machine_winnerOf 14 = .ok (.goto 4, 3) := by decide +kernel
theorem d_Machine_winnerOf_17 : decode c_Machine_winnerOf 17 = .ok (.iconst (-1), 1) := by decide +kernel
theorem d_Machine_winnerOf_18 : decode c_Machine_winnerOf 18 = .ok (.ireturn, 1) := by decide +kernel
theorem d_Machine_hasWinner_0 : decode c_Machine_hasWinner 0 = .ok (.aload_n 0, 1) := by decide +kernel
theorem d_Machine_hasWinner_1 : decode c_Machine_hasWinner 1 = .ok (.iload_n 1, 1) := by decide +kernel
theorem d_Machine_hasWinner_2 : decode c_Machine_hasWinner 2 = .ok (.invokevirtual 30, 3) := by decide +kernel
theorem d_Machine_hasWinner_5 : decode c_Machine_hasWinner 5 = .ok (.iconst (-1), 1) := by decide +kernel
theorem d_Machine_hasWinner_6 : decode c_Machine_hasWinner 6 = .ok (.if_icmp .eq 7, 3) := by decide +kernel
theorem d_Machine_hasWinner_9 : decode c_Machine_hasWinner 9 = .ok (.iconst 1, 1) := by decide +kernel
theorem d_Machine_hasWinner_10 : decode c_Machine_hasWinner 10 = .ok (.goto 4, 3) := by decide +kernel
theorem d_Machine_hasWinner_13 : decode c_Machine_hasWinner 13 = .ok (.iconst 0, 1) := by decide +kernel
theorem d_Machine_hasWinner_14 : decode c_Machine_hasWinner 14 = .ok (.ireturn, 1) := by decide +kernel
theorem d_Machine_goesOn_0 : decode c_Machine_goesOn 0 = .ok (.iconst 0, 1) := by decide +kernel
theorem d_Machine_goesOn_1 : decode c_Machine_goesOn 1 = .ok (.istore_n 2, 1) := by decide +kernel
theorem d_Machine_goesOn_2 : decode c_Machine_goesOn 2 = .ok (.iload_n 2, 1) := by decide +kernel
theorem d_Machine_goesOn_3 : decode c_Machine_goesOn 3 = .ok (.bipush 6, 2) := by decide +kernel
theorem d_Machine_goesOn_5 : decode c_Machine_goesOn 5 = .ok (.if_icmp .ge 21, 3) := by decide +kernel
theorem d_Machine_goesOn_8 : decode c_Machine_goesOn 8 = .ok (.aload_n 0, 1) := by decide +kernel
theorem d_Machine_goesOn_9 : decode c_Machine_goesOn 9 = .ok (.iload_n 1, 1) := by decide +kernel
theorem d_Machine_goesOn_10 : decode c_Machine_goesOn 10 = .ok (.iload_n 2, 1) := by decide +kernel
theorem d_Machine_goesOn_11 : decode c_Machine_goesOn 11 = .ok (.invokevirtual 34, 3) := by decide +kernel
theorem d_Machine_goesOn_14 : decode c_Machine_goesOn 14 = .ok (.iconst (-1), 1) := by decide +kernel
theorem d_Machine_goesOn_15 : decode c_Machine_goesOn 15 = .ok (.if_icmp .eq 5, 3) := by decide +kernel
theorem d_Machine_goesOn_18 : decode c_Machine_goesOn 18 = .ok (.iconst 1, 1) := by decide +kernel
theorem d_Machine_goesOn_19 : decode c_Machine_goesOn 19 = .ok (.ireturn, 1) := by decide +kernel
theorem d_Machine_goesOn_20 : decode c_Machine_goesOn 20 = .ok (.iinc 2 1, 3) := by decide +kernel
theorem d_Machine_goesOn_23 : decode c_Machine_goesOn 23 = .ok (.goto (-21), 3) := by decide +kernel
theorem d_Machine_goesOn_26 : decode c_Machine_goesOn 26 = .ok (.iconst 0, 1) := by decide +kernel
theorem d_Machine_goesOn_27 : decode c_Machine_goesOn 27 = .ok (.ireturn, 1) := by decide +kernel
theorem d_Machine_everWins_0 : decode c_Machine_everWins 0 = .ok (.iconst 0, 1) := by decide +kernel
theorem d_Machine_everWins_1 : decode c_Machine_everWins 1 = .ok (.istore_n 2, 1) := by decide +kernel
theorem d_Machine_everWins_2 : decode c_Machine_everWins 2 = .ok (.iload_n 2, 1) := by decide +kernel
theorem d_Machine_everWins_3 : decode c_Machine_everWins 3 = .ok (.aload_n 0, 1) := by decide +kernel
theorem d_Machine_everWins_4 : decode c_Machine_everWins 4 = .ok (.getfield 23, 3) := by decide +kernel
theorem d_Machine_everWins_7 : decode c_Machine_everWins 7 = .ok (.arraylength, 1) := by decide +kernel
theorem d_Machine_everWins_8 : decode c_Machine_everWins 8 = .ok (.if_icmp .ge 21, 3) := by decide +kernel
theorem d_Machine_everWins_11 : decode c_Machine_everWins 11 = .ok (.aload_n 0, 1) := by decide +kernel
theorem d_Machine_everWins_12 : decode c_Machine_everWins 12 = .ok (.getfield 23, 3) := by decide +kernel
theorem d_Machine_everWins_15 : decode c_Machine_everWins 15 = .ok (.iload_n 2, 1) := by decide +kernel
theorem d_Machine_everWins_16 : decode c_Machine_everWins 16 = .ok (.iaload, 1) := by decide +kernel
theorem d_Machine_everWins_17 : decode c_Machine_everWins 17 = .ok (.iload_n 1, 1) := by decide +kernel
theorem d_Machine_everWins_18 : decode c_Machine_everWins 18 = .ok (.if_icmp .ne 5, 3) := by decide +kernel
theorem d_Machine_everWins_21 : decode c_Machine_everWins 21 = .ok (.iconst 1, 1) := by decide +kernel
theorem d_Machine_everWins_22 : decode c_Machine_everWins 22 = .ok (.ireturn, 1) := by decide +kernel
theorem d_Machine_everWins_23 : decode c_Machine_everWins 23 = .ok (.iinc 2 1, 3) := by decide +kernel
theorem d_Machine_everWins_26 : decode c_Machine_everWins 26 = .ok (.goto (-24), 3) := by decide +kernel
theorem d_Machine_everWins_29 : decode c_Machine_everWins 29 = .ok (.iconst 0, 1) := by decide +kernel
theorem d_Machine_everWins_30 : decode c_Machine_everWins 30 = .ok (.ireturn, 1) := by decide +kernel
def p_Machine_init  (post : Int32 → Int32 → Prop) : Prop := (post (-1) 0)
set_option maxHeartbeats 4000000 in
set_option maxRecDepth 100000 in
theorem k_Machine_init (l : Launch) (G : va_G) (K : Nat → ClassId) (a0 a1 a2 : Nat) (sz : Nat)  (post : Int32 → Int32 → Prop) (h : p_Machine_init  post) : MWv l y_Machine_init (.code y_Machine_init c_Machine_init 3 none) { frames := 1, cells := 0, slots := 0, locals := 20 } G K [(a0, .inr (4, [.null, .null, .int 0, .int 0]))] [] [.ref a0, .ref a1, .ref a2] sz (fun (u : Int32 × Int32) => post u.1 u.2) (fun u => [(a0, .inr (4, [.ref a1, .ref a2, .int u.1, .int u.2]))]) 0 0 := by
  refine g_metWv (cc := c_Machine_init) (maxL := 3) (ret := none) (by decide) rfl rfl (Nat.le_of_ble_eq_true rfl) ?_
  intro p e s m below meth c A Q hx hb hml hown hname htg hK hN hP hD hA hS hR rN hret ls hl
  have hl : lv_has ls 3 [(0, .ref a0), (1, .ref a1), (2, .ref a2)] := hl
  refine lv_aload_n hx hb d_Machine_init_0 rfl (lv_at hl 0 rfl) ?_
  refine W.objInit hx hb hown (htg _ m_140) (htg _ m_23) (htg _ m_24) rfl (by rw [hml]; exact hl.1) rfl d_Machine_init_1 (Nat.le_of_ble_eq_true rfl) (Nat.le_of_ble_eq_true rfl) ?_
  refine W.eq (g2 := F0 m 4 ls []) rfl ?_
  refine lv_aload_n hx hb d_Machine_init_4 rfl (lv_at hl 0 rfl) ?_
  refine lv_iconst (v := (-1)) hx hb d_Machine_init_5 (by decide) ?_
  refine va_put (ci := 4) (v := .int (-1)) (ty := .int) hx hb htg in_Machine t_Machine tok_Machine nm_Machine hown hK hP hD hS 0 rfl rfl 2 (by decide) (htg _ m_143) (fun _ h9 => h9) rfl (by decide +kernel) rfl rfl (Nat.le_of_ble_eq_true rfl) d_Machine_init_6 (fun H locs hP hD hS => ?_)
  have hP : va_P G vwCl [(a0, .inr (4, [.null, .null, .int (-1), .int 0]))] H := hP
  have hD : va_D A [(a0, .inr (4, [.null, .null, .int (-1), .int 0]))] := hD
  refine lv_aload_n hx hb d_Machine_init_9 rfl (lv_at hl 0 rfl) ?_
  refine lv_iconst (v := 0) hx hb d_Machine_init_10 (by decide) ?_
  refine va_put (ci := 4) (v := .int 0) (ty := .boolean) hx hb htg in_Machine t_Machine tok_Machine nm_Machine hown hK hP hD hS 0 rfl rfl 3 (by decide) (htg _ m_144) (fun _ h9 => h9) rfl (by decide +kernel) (by decide +kernel) (by decide +kernel) (Nat.le_of_ble_eq_true rfl) d_Machine_init_11 (fun H locs hP hD hS => ?_)
  have hP : va_P G vwCl [(a0, .inr (4, [.null, .null, .int (-1), .int 0]))] H := hP
  have hD : va_D A [(a0, .inr (4, [.null, .null, .int (-1), .int 0]))] := hD
  refine lv_aload_n hx hb d_Machine_init_14 rfl (lv_at hl 0 rfl) ?_
  refine lv_aload_n hx hb d_Machine_init_15 rfl (lv_at hl 1 rfl) ?_
  refine va_putF (ci := 4) (v := .ref a1) (ty := (.array .int)) hx hb htg in_Machine t_Machine tok_Machine nm_Machine hown hK hP hD hS 0 rfl rfl 0 (by decide) (htg _ m_141) (fun _ h9 => h9) rfl hname rfl (by decide +kernel) rfl rfl (Nat.le_of_ble_eq_true rfl) d_Machine_init_16 (fun H locs hP hD hS => ?_)
  have hP : va_P G vwCl [(a0, .inr (4, [.ref a1, .null, .int (-1), .int 0]))] H := hP
  have hD : va_D A [(a0, .inr (4, [.ref a1, .null, .int (-1), .int 0]))] := hD
  refine lv_aload_n hx hb d_Machine_init_19 rfl (lv_at hl 0 rfl) ?_
  refine lv_aload_n hx hb d_Machine_init_20 rfl (lv_at hl 2 rfl) ?_
  refine va_putF (ci := 4) (v := .ref a2) (ty := (.array .int)) hx hb htg in_Machine t_Machine tok_Machine nm_Machine hown hK hP hD hS 0 rfl rfl 1 (by decide) (htg _ m_142) (fun _ h9 => h9) rfl hname rfl (by decide +kernel) rfl rfl (Nat.le_of_ble_eq_true rfl) d_Machine_init_21 (fun H locs hP hD hS => ?_)
  have hP : va_P G vwCl [(a0, .inr (4, [.ref a1, .ref a2, .int (-1), .int 0]))] H := hP
  have hD : va_D A [(a0, .inr (4, [.ref a1, .ref a2, .int (-1), .int 0]))] := hD
  exact hret ((-1), 0) _ _ _ _ h (hP.sub [0] rfl) (hD.sub [0] (by decide) rfl) hS d_Machine_init_24
def p_Machine_size (n_o_winners : Nat) (post : Int32 → Prop) : Prop := (post (Int32.ofNat n_o_winners))
set_option maxHeartbeats 4000000 in
set_option maxRecDepth 100000 in
theorem k_Machine_size (l : Launch) (G : va_G) (K : Nat → ClassId) (a0 a0_winners a0_after : Nat) (v_o_gap : Int32) (v_o_isGapKnown : Int32) (n_o_winners : Nat) (f_o_winners : (Nat → Int32)) (post : Int32 → Prop) (h : p_Machine_size n_o_winners post) : MSi l y_Machine_size (.code y_Machine_size c_Machine_size 1 (some .int)) { frames := 0, cells := 0, slots := 0, locals := 0 } G K [(a0, .inr (4, [.ref a0_after, .ref a0_winners, .int v_o_gap, .int v_o_isGapKnown])), (a0_winners, .inl (K 0, n_o_winners, .inl f_o_winners))] [.ref a0] post := by
  refine g_metSi (cc := c_Machine_size) (maxL := 1) (ret := some .int) (rt := .int) (by decide) rfl rfl (Nat.le_of_ble_eq_true rfl) ?_
  intro p e s m below meth c Q hx hb hml hown htg hK hN hP hret ls hl
  have hl : lv_has ls 1 [(0, .ref a0)] := hl
  refine lv_aload_n hx hb d_Machine_size_0 rfl (lv_at hl 0 rfl) ?_
  refine va_get (ci := 4) (v := .ref a0_winners) hx hb htg in_Machine hown hK hP 0 rfl rfl 1 (by decide) (htg _ m_142) (fun _ h9 => h9) rfl d_Machine_size_1 ?_
  refine va_alen (v := (Int32.ofNat n_o_winners)) hx hb hK hP 1 0 rfl rfl (by first | rfl | decide) d_Machine_size_4 ?_
  exact hret _ _ _ h (vp_nar_int _) d_Machine_size_5
def p_Machine_hasState (n_o_winners : Nat) (x1 : Int32) (post : Int32 → Prop) : Prop := ((x1 < 0 → (post 0)) ∧ (¬ x1 < 0 → (((Int32.ofNat n_o_winners) ≤ x1 → (post 0)) ∧ (¬ (Int32.ofNat n_o_winners) ≤ x1 → (post 1)))))
set_option maxHeartbeats 4000000 in
set_option maxRecDepth 100000 in
theorem k_Machine_hasState (l : Launch) (G : va_G) (K : Nat → ClassId) (a0 a0_winners a0_after : Nat) (v_o_gap : Int32) (v_o_isGapKnown : Int32) (n_o_winners : Nat) (f_o_winners : (Nat → Int32)) (x1 : Int32) (post : Int32 → Prop) (h : p_Machine_hasState n_o_winners x1 post) : MSi l y_Machine_hasState (.code y_Machine_hasState c_Machine_hasState 2 (some .boolean)) { frames := 0, cells := 0, slots := 0, locals := 0 } G K [(a0, .inr (4, [.ref a0_after, .ref a0_winners, .int v_o_gap, .int v_o_isGapKnown])), (a0_winners, .inl (K 0, n_o_winners, .inl f_o_winners))] [.ref a0, .int x1] post := by
  refine g_metSi (cc := c_Machine_hasState) (maxL := 2) (ret := some .boolean) (rt := .boolean) (by decide) rfl rfl (Nat.le_of_ble_eq_true rfl) ?_
  intro p e s m below meth c Q hx hb hml hown htg hK hN hP hret ls hl
  have hl : lv_has ls 2 [(0, .ref a0), (1, .int x1)] := hl
  refine lv_iload_n hx hb d_Machine_hasState_0 rfl (lv_at hl 1 rfl) ?_
  refine lv_if_lt (tgt := 17) hx hb d_Machine_hasState_1 (by decide) (fun hc => ?_) (fun hc => ?_)
  · replace h := h.1 hc
    refine lv_iconst (v := 0) hx hb d_Machine_hasState_17 (by decide) ?_
    exact hret _ _ _ h (by decide +kernel) d_Machine_hasState_18
  · replace h := h.2 hc
    refine lv_iload_n hx hb d_Machine_hasState_4 rfl (lv_at hl 1 rfl) ?_
    refine lv_aload_n hx hb d_Machine_hasState_5 rfl (lv_at hl 0 rfl) ?_
    refine va_get (ci := 4) (v := .ref a0_winners) hx hb htg in_Machine hown hK hP 0 rfl rfl 1 (by decide) (htg _ m_142) (fun _ h9 => h9) rfl d_Machine_hasState_6 ?_
    refine va_alen (v := (Int32.ofNat n_o_winners)) hx hb hK hP 1 0 rfl rfl (by first | rfl | decide) d_Machine_hasState_9 ?_
    refine lv_icmp_ge (tgt := 17) hx hb d_Machine_hasState_10 (by decide) (fun hc => ?_) (fun hc => ?_)
    · replace h := h.1 hc
      refine lv_iconst (v := 0) hx hb d_Machine_hasState_17 (by decide) ?_
      exact hret _ _ _ h (by decide +kernel) d_Machine_hasState_18
    · replace h := h.2 hc
      refine lv_iconst (v := 1) hx hb d_Machine_hasState_13 (by decide) ?_
      refine lv_goto (tgt := 18) hx hb d_Machine_hasState_14 (by decide) ?_
      exact hret _ _ _ h (by decide +kernel) d_Machine_hasState_18
def p_Machine_after (n_o_winners : Nat) (n_o_after : Nat) (f_o_after : (Nat → Int32)) (x1 : Int32) (x2 : Int32) (post : Int32 → Prop) : Prop := (p_Machine_hasState n_o_winners x1 (fun r1 => ((r1 = 0 → (post (-1))) ∧ (¬ r1 = 0 → ((x2 < 0 → (post (-1))) ∧ (¬ x2 < 0 → ((6 ≤ x2 → (post (-1))) ∧ (¬ 6 ≤ x2 → (vp_in ((x1 * 6) + x2) n_o_after ∧ (post (f_o_after ((x1 * 6) + x2).toNatClampNeg)))))))))))
set_option maxHeartbeats 4000000 in
set_option maxRecDepth 100000 in
theorem k_Machine_after (l : Launch) (G : va_G) (K : Nat → ClassId) (a0 a0_winners a0_after : Nat) (v_o_gap : Int32) (v_o_isGapKnown : Int32) (n_o_winners : Nat) (f_o_winners : (Nat → Int32)) (n_o_after : Nat) (f_o_after : (Nat → Int32)) (x1 : Int32) (x2 : Int32) (post : Int32 → Prop) (h : p_Machine_after n_o_winners n_o_after f_o_after x1 x2 post) : MSi l y_Machine_after (.code y_Machine_after c_Machine_after 4 (some .int)) { frames := 1, cells := 0, slots := 0, locals := 21 } G K [(a0, .inr (4, [.ref a0_after, .ref a0_winners, .int v_o_gap, .int v_o_isGapKnown])), (a0_winners, .inl (K 0, n_o_winners, .inl f_o_winners)), (a0_after, .inl (K 0, n_o_after, .inl f_o_after))] [.ref a0, .int x1, .int x2] post := by
  refine g_metSi (cc := c_Machine_after) (maxL := 4) (ret := some .int) (rt := .int) (by decide) rfl rfl (Nat.le_of_ble_eq_true rfl) ?_
  intro p e s m below meth c Q hx hb hml hown htg hK hN hP hret ls hl
  have hl : lv_has ls 4 [(0, .ref a0), (1, .int x1), (2, .int x2)] := hl
  refine lv_aload_n hx hb d_Machine_after_0 rfl (lv_at hl 0 rfl) ?_
  refine lv_iload_n hx hb d_Machine_after_1 rfl (lv_at hl 1 rfl) ?_
  have hPc : va_P G vwCl [(a0, .inr (4, [.ref a0_after, .ref a0_winners, .int v_o_gap, .int v_o_isGapKnown])), (a0_winners, .inl (K 0, n_o_winners, .inl f_o_winners))] _ := hP.sub [0, 1] rfl
  refine vp_callSi (va_Run.run (va_runV (As := [.int x1]) (rest := []) ⟨hx, hb, hml, hown, htg⟩ (k_Machine_hasState l G K a0 a0_winners a0_after v_o_gap v_o_isGapKnown n_o_winners f_o_winners x1 _ h) (cwV 1 htg (gGoodV m_363 m_364 m_849 m_9 m_365) rfl rfl rfl (by decide +kernel) ⟨(Nat.le_of_ble_eq_true rfl), (Nat.le_of_ble_eq_true rfl)⟩) (gS_preV (ci := 4) (q0 := 0) hK hN hPc rfl rfl) rfl rfl hl.1 rfl (lv_room (Nat.le_of_ble_eq_true rfl)) d_Machine_after_2 ⟨(Nat.le_of_ble_eq_true rfl), (Nat.le_of_ble_eq_true rfl)⟩)) (fun r1 h => ?_)
  refine lv_if_eq (tgt := 22) hx hb d_Machine_after_5 (by decide) (fun hc => ?_) (fun hc => ?_)
  · replace h := h.1 hc
    refine lv_iconst (v := 0) hx hb d_Machine_after_22 (by decide) ?_
    refine lv_istore_n (lv' := [(3, .int 0), (0, .ref a0), (1, .int x1), (2, .int x2)]) hx hb d_Machine_after_23 rfl hl (by decide) rfl (fun ls hl => ?_)
    refine lv_iload_n hx hb d_Machine_after_24 rfl (lv_at hl 0 rfl) ?_
    refine lv_if_eq (tgt := 42) hx hb d_Machine_after_25 (by decide) (fun _ => ?_) (fun hc => absurd (by decide) hc)
    refine lv_iconst (v := (-1)) hx hb d_Machine_after_42 (by decide) ?_
    exact hret _ _ _ h (vp_nar_int _) d_Machine_after_43
  · replace h := h.2 hc
    refine lv_iload_n hx hb d_Machine_after_8 rfl (lv_at hl 2 rfl) ?_
    refine lv_if_lt (tgt := 22) hx hb d_Machine_after_9 (by decide) (fun hc => ?_) (fun hc => ?_)
    · replace h := h.1 hc
      refine lv_iconst (v := 0) hx hb d_Machine_after_22 (by decide) ?_
      refine lv_istore_n (lv' := [(3, .int 0), (0, .ref a0), (1, .int x1), (2, .int x2)]) hx hb d_Machine_after_23 rfl hl (by decide) rfl (fun ls hl => ?_)
      refine lv_iload_n hx hb d_Machine_after_24 rfl (lv_at hl 0 rfl) ?_
      refine lv_if_eq (tgt := 42) hx hb d_Machine_after_25 (by decide) (fun _ => ?_) (fun hc => absurd (by decide) hc)
      refine lv_iconst (v := (-1)) hx hb d_Machine_after_42 (by decide) ?_
      exact hret _ _ _ h (vp_nar_int _) d_Machine_after_43
    · replace h := h.2 hc
      refine lv_iload_n hx hb d_Machine_after_12 rfl (lv_at hl 2 rfl) ?_
      refine lv_bipush (v := 6) hx hb d_Machine_after_13 (by decide) ?_
      refine lv_icmp_ge (tgt := 22) hx hb d_Machine_after_15 (by decide) (fun hc => ?_) (fun hc => ?_)
      · replace h := h.1 hc
        refine lv_iconst (v := 0) hx hb d_Machine_after_22 (by decide) ?_
        refine lv_istore_n (lv' := [(3, .int 0), (0, .ref a0), (1, .int x1), (2, .int x2)]) hx hb d_Machine_after_23 rfl hl (by decide) rfl (fun ls hl => ?_)
        refine lv_iload_n hx hb d_Machine_after_24 rfl (lv_at hl 0 rfl) ?_
        refine lv_if_eq (tgt := 42) hx hb d_Machine_after_25 (by decide) (fun _ => ?_) (fun hc => absurd (by decide) hc)
        refine lv_iconst (v := (-1)) hx hb d_Machine_after_42 (by decide) ?_
        exact hret _ _ _ h (vp_nar_int _) d_Machine_after_43
      · replace h := h.2 hc
        refine lv_iconst (v := 1) hx hb d_Machine_after_18 (by decide) ?_
        refine lv_goto (tgt := 23) hx hb d_Machine_after_19 (by decide) ?_
        refine lv_istore_n (lv' := [(3, .int 1), (0, .ref a0), (1, .int x1), (2, .int x2)]) hx hb d_Machine_after_23 rfl hl (by decide) rfl (fun ls hl => ?_)
        refine lv_iload_n hx hb d_Machine_after_24 rfl (lv_at hl 0 rfl) ?_
        refine lv_if_eq (tgt := 42) hx hb d_Machine_after_25 (by decide) (fun hc => absurd hc (by decide)) (fun _ => ?_)
        refine lv_aload_n hx hb d_Machine_after_28 rfl (lv_at hl 1 rfl) ?_
        refine va_get (ci := 4) (v := .ref a0_after) hx hb htg in_Machine hown hK hP 0 rfl rfl 0 (by decide) (htg _ m_141) (fun _ h9 => h9) rfl d_Machine_after_29 ?_
        refine lv_iload_n hx hb d_Machine_after_32 rfl (lv_at hl 2 rfl) ?_
        refine lv_bipush (v := 6) hx hb d_Machine_after_33 (by decide) ?_
        refine lv_imul hx hb d_Machine_after_35 ?_
        refine lv_iload_n hx hb d_Machine_after_36 rfl (lv_at hl 3 rfl) ?_
        refine lv_iadd hx hb d_Machine_after_37 ?_
        obtain ⟨hin, h⟩ := h
        refine va_iald hx hb hK hP 2 0 rfl rfl hin d_Machine_after_38 ?_
        refine lv_goto (tgt := 43) hx hb d_Machine_after_39 (by decide) ?_
        exact hret _ _ _ h (vp_nar_int _) d_Machine_after_43
def p_Machine_winnerOf (n_o_winners : Nat) (f_o_winners : (Nat → Int32)) (x1 : Int32) (post : Int32 → Prop) : Prop := (p_Machine_hasState n_o_winners x1 (fun r1 => ((r1 = 0 → (post (-1))) ∧ (¬ r1 = 0 → (vp_in x1 n_o_winners ∧ (post (f_o_winners x1.toNatClampNeg)))))))
set_option maxHeartbeats 4000000 in
set_option maxRecDepth 100000 in
theorem k_Machine_winnerOf (l : Launch) (G : va_G) (K : Nat → ClassId) (a0 a0_winners a0_after : Nat) (v_o_gap : Int32) (v_o_isGapKnown : Int32) (n_o_winners : Nat) (f_o_winners : (Nat → Int32)) (x1 : Int32) (post : Int32 → Prop) (h : p_Machine_winnerOf n_o_winners f_o_winners x1 post) : MSi l y_Machine_winnerOf (.code y_Machine_winnerOf c_Machine_winnerOf 2 (some .int)) { frames := 1, cells := 0, slots := 0, locals := 21 } G K [(a0, .inr (4, [.ref a0_after, .ref a0_winners, .int v_o_gap, .int v_o_isGapKnown])), (a0_winners, .inl (K 0, n_o_winners, .inl f_o_winners))] [.ref a0, .int x1] post := by
  refine g_metSi (cc := c_Machine_winnerOf) (maxL := 2) (ret := some .int) (rt := .int) (by decide) rfl rfl (Nat.le_of_ble_eq_true rfl) ?_
  intro p e s m below meth c Q hx hb hml hown htg hK hN hP hret ls hl
  have hl : lv_has ls 2 [(0, .ref a0), (1, .int x1)] := hl
  refine lv_aload_n hx hb d_Machine_winnerOf_0 rfl (lv_at hl 0 rfl) ?_
  refine lv_iload_n hx hb d_Machine_winnerOf_1 rfl (lv_at hl 1 rfl) ?_
  have hPc : va_P G vwCl [(a0, .inr (4, [.ref a0_after, .ref a0_winners, .int v_o_gap, .int v_o_isGapKnown])), (a0_winners, .inl (K 0, n_o_winners, .inl f_o_winners))] _ := hP.sub [0, 1] rfl
  refine vp_callSi (va_Run.run (va_runV (As := [.int x1]) (rest := []) ⟨hx, hb, hml, hown, htg⟩ (k_Machine_hasState l G K a0 a0_winners a0_after v_o_gap v_o_isGapKnown n_o_winners f_o_winners x1 _ h) (cwV 1 htg (gGoodV m_363 m_364 m_849 m_9 m_365) rfl rfl rfl (by decide +kernel) ⟨(Nat.le_of_ble_eq_true rfl), (Nat.le_of_ble_eq_true rfl)⟩) (gS_preV (ci := 4) (q0 := 0) hK hN hPc rfl rfl) rfl rfl hl.1 rfl (lv_room (Nat.le_of_ble_eq_true rfl)) d_Machine_winnerOf_2 ⟨(Nat.le_of_ble_eq_true rfl), (Nat.le_of_ble_eq_true rfl)⟩)) (fun r1 h => ?_)
  refine lv_if_eq (tgt := 17) hx hb d_Machine_winnerOf_5 (by decide) (fun hc => ?_) (fun hc => ?_)
  · replace h := h.1 hc
    refine lv_iconst (v := (-1)) hx hb d_Machine_winnerOf_17 (by decide) ?_
    exact hret _ _ _ h (vp_nar_int _) d_Machine_winnerOf_18
  · replace h := h.2 hc
    refine lv_aload_n hx hb d_Machine_winnerOf_8 rfl (lv_at hl 0 rfl) ?_
    refine va_get (ci := 4) (v := .ref a0_winners) hx hb htg in_Machine hown hK hP 0 rfl rfl 1 (by decide) (htg _ m_142) (fun _ h9 => h9) rfl d_Machine_winnerOf_9 ?_
    refine lv_iload_n hx hb d_Machine_winnerOf_12 rfl (lv_at hl 1 rfl) ?_
    obtain ⟨hin, h⟩ := h
    refine va_iald hx hb hK hP 1 0 rfl rfl hin d_Machine_winnerOf_13 ?_
    refine lv_goto (tgt := 18) hx hb d_Machine_winnerOf_14 (by decide) ?_
    exact hret _ _ _ h (vp_nar_int _) d_Machine_winnerOf_18
def p_Machine_hasWinner (n_o_winners : Nat) (f_o_winners : (Nat → Int32)) (x1 : Int32) (post : Int32 → Prop) : Prop := (p_Machine_winnerOf n_o_winners f_o_winners x1 (fun r1 => ((r1 = (-1) → (post 0)) ∧ (¬ r1 = (-1) → (post 1)))))
set_option maxHeartbeats 4000000 in
set_option maxRecDepth 100000 in
theorem k_Machine_hasWinner (l : Launch) (G : va_G) (K : Nat → ClassId) (a0 a0_winners a0_after : Nat) (v_o_gap : Int32) (v_o_isGapKnown : Int32) (n_o_winners : Nat) (f_o_winners : (Nat → Int32)) (x1 : Int32) (post : Int32 → Prop) (h : p_Machine_hasWinner n_o_winners f_o_winners x1 post) : MSi l y_Machine_hasWinner (.code y_Machine_hasWinner c_Machine_hasWinner 2 (some .boolean)) { frames := 2, cells := 0, slots := 0, locals := 42 } G K [(a0, .inr (4, [.ref a0_after, .ref a0_winners, .int v_o_gap, .int v_o_isGapKnown])), (a0_winners, .inl (K 0, n_o_winners, .inl f_o_winners))] [.ref a0, .int x1] post := by
  refine g_metSi (cc := c_Machine_hasWinner) (maxL := 2) (ret := some .boolean) (rt := .boolean) (by decide) rfl rfl (Nat.le_of_ble_eq_true rfl) ?_
  intro p e s m below meth c Q hx hb hml hown htg hK hN hP hret ls hl
  have hl : lv_has ls 2 [(0, .ref a0), (1, .int x1)] := hl
  refine lv_aload_n hx hb d_Machine_hasWinner_0 rfl (lv_at hl 0 rfl) ?_
  refine lv_iload_n hx hb d_Machine_hasWinner_1 rfl (lv_at hl 1 rfl) ?_
  have hPc : va_P G vwCl [(a0, .inr (4, [.ref a0_after, .ref a0_winners, .int v_o_gap, .int v_o_isGapKnown])), (a0_winners, .inl (K 0, n_o_winners, .inl f_o_winners))] _ := hP.sub [0, 1] rfl
  refine vp_callSi (va_Run.run (va_runV (As := [.int x1]) (rest := []) ⟨hx, hb, hml, hown, htg⟩ (k_Machine_winnerOf l G K a0 a0_winners a0_after v_o_gap v_o_isGapKnown n_o_winners f_o_winners x1 _ h) (cwV 1 htg (gGoodV m_407 m_371 m_372 m_9 m_373) rfl rfl rfl (by decide +kernel) ⟨(Nat.le_of_ble_eq_true rfl), (Nat.le_of_ble_eq_true rfl)⟩) (gS_preV (ci := 4) (q0 := 0) hK hN hPc rfl rfl) rfl rfl hl.1 rfl (lv_room (Nat.le_of_ble_eq_true rfl)) d_Machine_hasWinner_2 ⟨(Nat.le_of_ble_eq_true rfl), (Nat.le_of_ble_eq_true rfl)⟩)) (fun r1 h => ?_)
  refine lv_iconst (v := (-1)) hx hb d_Machine_hasWinner_5 (by decide) ?_
  refine lv_icmp_eq (tgt := 13) hx hb d_Machine_hasWinner_6 (by decide) (fun hc => ?_) (fun hc => ?_)
  · replace h := h.1 hc
    refine lv_iconst (v := 0) hx hb d_Machine_hasWinner_13 (by decide) ?_
    exact hret _ _ _ h (by decide +kernel) d_Machine_hasWinner_14
  · replace h := h.2 hc
    refine lv_iconst (v := 1) hx hb d_Machine_hasWinner_9 (by decide) ?_
    refine lv_goto (tgt := 14) hx hb d_Machine_hasWinner_10 (by decide) ?_
    exact hret _ _ _ h (by decide +kernel) d_Machine_hasWinner_14
def p_Machine_goesOn_2 (n_o_winners : Nat) (n_o_after : Nat) (f_o_after : (Nat → Int32)) (x1 : Int32) (post : Int32 → Prop) : Nat → Int32 → Prop
  | 0, _ => False
  | n + 1, l2 => ((6 ≤ l2 → (post 0)) ∧ (¬ 6 ≤ l2 → (p_Machine_after n_o_winners n_o_after f_o_after x1 l2 (fun r1201 => ((r1201 = (-1) → (p_Machine_goesOn_2 n_o_winners n_o_after f_o_after x1 post n (l2 + 1))) ∧ (¬ r1201 = (-1) → (post 1)))))))
def p_Machine_goesOn (n_o_winners : Nat) (n_o_after : Nat) (f_o_after : (Nat → Int32)) (x1 : Int32) (post : Int32 → Prop) : Prop := (∃ k, p_Machine_goesOn_2 n_o_winners n_o_after f_o_after x1 post k 0)
set_option maxHeartbeats 4000000 in
set_option maxRecDepth 100000 in
theorem k_Machine_goesOn (l : Launch) (G : va_G) (K : Nat → ClassId) (a0 a0_winners a0_after : Nat) (v_o_gap : Int32) (v_o_isGapKnown : Int32) (n_o_winners : Nat) (f_o_winners : (Nat → Int32)) (n_o_after : Nat) (f_o_after : (Nat → Int32)) (x1 : Int32) (post : Int32 → Prop) (h : p_Machine_goesOn n_o_winners n_o_after f_o_after x1 post) : MSi l y_Machine_goesOn (.code y_Machine_goesOn c_Machine_goesOn 3 (some .boolean)) { frames := 2, cells := 0, slots := 0, locals := 44 } G K [(a0, .inr (4, [.ref a0_after, .ref a0_winners, .int v_o_gap, .int v_o_isGapKnown])), (a0_winners, .inl (K 0, n_o_winners, .inl f_o_winners)), (a0_after, .inl (K 0, n_o_after, .inl f_o_after))] [.ref a0, .int x1] post := by
  refine g_metSi (cc := c_Machine_goesOn) (maxL := 3) (ret := some .boolean) (rt := .boolean) (by decide) rfl rfl (Nat.le_of_ble_eq_true rfl) ?_
  intro p e s m below meth c Q hx hb hml hown htg hK hN hP hret ls hl
  have hl : lv_has ls 3 [(0, .ref a0), (1, .int x1)] := hl
  have C_2 : ∀ (n : Nat) (l2 : Int32) (ls : Array Slot), lv_has ls 3 [(0, .ref a0), (1, .int x1), (2, .int l2)] → p_Machine_goesOn_2 n_o_winners n_o_after f_o_after x1 post n l2 → W p l e { frames := 2, cells := 0, slots := 0, locals := 44 } s m ([.ref a0, .int x1] : List Value).toArray below meth c s.heap [] 0 0 Q (F0 m 2 ls []) := by
    intro n
    induction n with
    | zero =>
      intro l2 ls hl h
      exact False.elim h
    | succ n ih =>
      intro l2 ls hl h
      refine lv_iload_n hx hb d_Machine_goesOn_2 rfl (lv_at hl 2 rfl) ?_
      refine lv_bipush (v := 6) hx hb d_Machine_goesOn_3 (by decide) ?_
      refine lv_icmp_ge (tgt := 26) hx hb d_Machine_goesOn_5 (by decide) (fun hc => ?_) (fun hc => ?_)
      · replace h := h.1 hc
        refine lv_iconst (v := 0) hx hb d_Machine_goesOn_26 (by decide) ?_
        exact hret _ _ _ h (by decide +kernel) d_Machine_goesOn_27
      · replace h := h.2 hc
        refine lv_aload_n hx hb d_Machine_goesOn_8 rfl (lv_at hl 0 rfl) ?_
        refine lv_iload_n hx hb d_Machine_goesOn_9 rfl (lv_at hl 1 rfl) ?_
        refine lv_iload_n hx hb d_Machine_goesOn_10 rfl (lv_at hl 2 rfl) ?_
        have hPc : va_P G vwCl [(a0, .inr (4, [.ref a0_after, .ref a0_winners, .int v_o_gap, .int v_o_isGapKnown])), (a0_winners, .inl (K 0, n_o_winners, .inl f_o_winners)), (a0_after, .inl (K 0, n_o_after, .inl f_o_after))] _ := hP.sub [0, 1, 2] rfl
        refine vp_callSi (va_Run.run (va_runV (As := [.int x1, .int l2]) (rest := []) ⟨hx, hb, hml, hown, htg⟩ (k_Machine_after l G K a0 a0_winners a0_after v_o_gap v_o_isGapKnown n_o_winners f_o_winners n_o_after f_o_after x1 l2 _ h) (cwV 2 htg (gGoodV m_534 m_360 m_361 m_9 m_362) rfl rfl rfl (by decide +kernel) ⟨(Nat.le_of_ble_eq_true rfl), (Nat.le_of_ble_eq_true rfl)⟩) (gS_preV (ci := 4) (q0 := 0) hK hN hPc rfl rfl) rfl rfl hl.1 rfl (lv_room (Nat.le_of_ble_eq_true rfl)) d_Machine_goesOn_11 ⟨(Nat.le_of_ble_eq_true rfl), (Nat.le_of_ble_eq_true rfl)⟩)) (fun r1201 h => ?_)
        refine lv_iconst (v := (-1)) hx hb d_Machine_goesOn_14 (by decide) ?_
        refine lv_icmp_eq (tgt := 20) hx hb d_Machine_goesOn_15 (by decide) (fun hc => ?_) (fun hc => ?_)
        · replace h := h.1 hc
          refine lv_iinc (v := (l2 + 1)) (lv' := [(2, .int (l2 + 1)), (0, .ref a0), (1, .int x1)]) hx hb d_Machine_goesOn_20 hl (k := 2) rfl (by first | rfl | decide) (by decide) rfl (fun ls hl => ?_)
          refine lv_goto (tgt := 2) hx hb d_Machine_goesOn_23 (by decide) ?_
          exact ih (l2 + 1) _ (lv_sub hl [1, 2, 0] rfl) h
        · replace h := h.2 hc
          refine lv_iconst (v := 1) hx hb d_Machine_goesOn_18 (by decide) ?_
          exact hret _ _ _ h (by decide +kernel) d_Machine_goesOn_19
  refine lv_iconst (v := 0) hx hb d_Machine_goesOn_0 (by decide) ?_
  refine lv_istore_n (lv' := [(2, .int 0), (0, .ref a0), (1, .int x1)]) hx hb d_Machine_goesOn_1 rfl hl (by decide) rfl (fun ls hl => ?_)
  obtain ⟨k, h⟩ := h
  exact C_2 k 0 _ (lv_sub hl [1, 2, 0] rfl) h
def p_Machine_everWins_2 (n_o_winners : Nat) (f_o_winners : (Nat → Int32)) (x1 : Int32) (post : Int32 → Prop) : Nat → Int32 → Prop
  | 0, _ => False
  | n + 1, l2 => (((Int32.ofNat n_o_winners) ≤ l2 → (post 0)) ∧ (¬ (Int32.ofNat n_o_winners) ≤ l2 → (vp_in l2 n_o_winners ∧ ((¬ (f_o_winners l2.toNatClampNeg) = x1 → (p_Machine_everWins_2 n_o_winners f_o_winners x1 post n (l2 + 1))) ∧ ((f_o_winners l2.toNatClampNeg) = x1 → (post 1))))))
def p_Machine_everWins (n_o_winners : Nat) (f_o_winners : (Nat → Int32)) (x1 : Int32) (post : Int32 → Prop) : Prop := (∃ k, p_Machine_everWins_2 n_o_winners f_o_winners x1 post k 0)
set_option maxHeartbeats 4000000 in
set_option maxRecDepth 100000 in
theorem k_Machine_everWins (l : Launch) (G : va_G) (K : Nat → ClassId) (a0 a0_winners a0_after : Nat) (v_o_gap : Int32) (v_o_isGapKnown : Int32) (n_o_winners : Nat) (f_o_winners : (Nat → Int32)) (x1 : Int32) (post : Int32 → Prop) (h : p_Machine_everWins n_o_winners f_o_winners x1 post) : MSi l y_Machine_everWins (.code y_Machine_everWins c_Machine_everWins 3 (some .boolean)) { frames := 0, cells := 0, slots := 0, locals := 0 } G K [(a0, .inr (4, [.ref a0_after, .ref a0_winners, .int v_o_gap, .int v_o_isGapKnown])), (a0_winners, .inl (K 0, n_o_winners, .inl f_o_winners))] [.ref a0, .int x1] post := by
  refine g_metSi (cc := c_Machine_everWins) (maxL := 3) (ret := some .boolean) (rt := .boolean) (by decide) rfl rfl (Nat.le_of_ble_eq_true rfl) ?_
  intro p e s m below meth c Q hx hb hml hown htg hK hN hP hret ls hl
  have hl : lv_has ls 3 [(0, .ref a0), (1, .int x1)] := hl
  have C_2 : ∀ (n : Nat) (l2 : Int32) (ls : Array Slot), lv_has ls 3 [(0, .ref a0), (1, .int x1), (2, .int l2)] → p_Machine_everWins_2 n_o_winners f_o_winners x1 post n l2 → W p l e { frames := 0, cells := 0, slots := 0, locals := 0 } s m ([.ref a0, .int x1] : List Value).toArray below meth c s.heap [] 0 0 Q (F0 m 2 ls []) := by
    intro n
    induction n with
    | zero =>
      intro l2 ls hl h
      exact False.elim h
    | succ n ih =>
      intro l2 ls hl h
      refine lv_iload_n hx hb d_Machine_everWins_2 rfl (lv_at hl 2 rfl) ?_
      refine lv_aload_n hx hb d_Machine_everWins_3 rfl (lv_at hl 0 rfl) ?_
      refine va_get (ci := 4) (v := .ref a0_winners) hx hb htg in_Machine hown hK hP 0 rfl rfl 1 (by decide) (htg _ m_142) (fun _ h9 => h9) rfl d_Machine_everWins_4 ?_
      refine va_alen (v := (Int32.ofNat n_o_winners)) hx hb hK hP 1 0 rfl rfl (by first | rfl | decide) d_Machine_everWins_7 ?_
      refine lv_icmp_ge (tgt := 29) hx hb d_Machine_everWins_8 (by decide) (fun hc => ?_) (fun hc => ?_)
      · replace h := h.1 hc
        refine lv_iconst (v := 0) hx hb d_Machine_everWins_29 (by decide) ?_
        exact hret _ _ _ h (by decide +kernel) d_Machine_everWins_30
      · replace h := h.2 hc
        refine lv_aload_n hx hb d_Machine_everWins_11 rfl (lv_at hl 0 rfl) ?_
        refine va_get (ci := 4) (v := .ref a0_winners) hx hb htg in_Machine hown hK hP 0 rfl rfl 1 (by decide) (htg _ m_142) (fun _ h9 => h9) rfl d_Machine_everWins_12 ?_
        refine lv_iload_n hx hb d_Machine_everWins_15 rfl (lv_at hl 2 rfl) ?_
        obtain ⟨hin, h⟩ := h
        refine va_iald hx hb hK hP 1 0 rfl rfl hin d_Machine_everWins_16 ?_
        refine lv_iload_n hx hb d_Machine_everWins_17 rfl (lv_at hl 1 rfl) ?_
        refine lv_icmp_ne (tgt := 23) hx hb d_Machine_everWins_18 (by decide) (fun hc => ?_) (fun hc => ?_)
        · replace h := h.1 hc
          refine lv_iinc (v := (l2 + 1)) (lv' := [(2, .int (l2 + 1)), (0, .ref a0), (1, .int x1)]) hx hb d_Machine_everWins_23 hl (k := 2) rfl (by first | rfl | decide) (by decide) rfl (fun ls hl => ?_)
          refine lv_goto (tgt := 2) hx hb d_Machine_everWins_26 (by decide) ?_
          exact ih (l2 + 1) _ (lv_sub hl [1, 2, 0] rfl) h
        · replace h := h.2 hc
          refine lv_iconst (v := 1) hx hb d_Machine_everWins_21 (by decide) ?_
          exact hret _ _ _ h (by decide +kernel) d_Machine_everWins_22
  refine lv_iconst (v := 0) hx hb d_Machine_everWins_0 (by decide) ?_
  refine lv_istore_n (lv' := [(2, .int 0), (0, .ref a0), (1, .int x1)]) hx hb d_Machine_everWins_1 rfl hl (by decide) rfl (fun ls hl => ?_)
  obtain ⟨k, h⟩ := h
  exact C_2 k 0 _ (lv_sub hl [1, 2, 0] rfl) h
