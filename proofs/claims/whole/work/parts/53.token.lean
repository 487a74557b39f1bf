theorem d_TB_token_0 : decode c_TB_token 0 = .ok (.aload_n 0, 1) := by decide +kernel
theorem d_TB_token_1 : decode c_TB_token 1 = .ok (.getfield 41, 3) := by decide +kernel
theorem d_TB_token_4 : decode c_TB_token 4 = .ok (.invokevirtual 120, 3) := by decide +kernel
theorem d_TB_token_7 : decode c_TB_token 7 = .ok (.invokevirtual 124, 3) := by decide +kernel
theorem d_TB_token_10 : decode c_TB_token 10 = .ok (.ifCond .ne 11, 3) := by decide +kernel
theorem d_TB_token_13 : decode c_TB_token 13 = .ok (.new 127, 3) := by decide +kernel
theorem d_TB_token_16 : decode c_TB_token 16 = .ok (.dup, 1) := by decide +kernel
theorem d_TB_token_17 : decode c_TB_token 17 = .ok (.invokespecial 129, 3) := by decide +kernel
theorem d_TB_token_20 : decode c_TB_token 20 = .ok (.athrow, 1) := by decide +kernel
theorem d_TB_token_21 : decode c_TB_token 21 = .ok (.iload_n 1, 1) := by decide +kernel
theorem d_TB_token_22 : decode c_TB_token 22 = .ok (.ifCond .lt 8, 3) := by decide +kernel
theorem d_TB_token_25 : decode c_TB_token 25 = .ok (.iload_n 1, 1) := by decide +kernel
theorem d_TB_token_26 : decode c_TB_token 26 = .ok (.iconst 4, 1) := by decide +kernel
theorem d_TB_token_27 : decode c_TB_token 27 = .ok (.if_icmp .lt 11, 3) := by decide +kernel
theorem d_TB_token_30 : decode c_TB_token 30 = .ok (.new 130, 3) := by decide +kernel
theorem d_TB_token_33 : decode c_TB_token 33 = .ok (.dup, 1) := by decide +kernel
theorem d_TB_token_34 : decode c_TB_token 34 = .ok (.invokespecial 132, 3) := by decide +kernel
theorem d_TB_token_37 : decode c_TB_token 37 = .ok (.athrow, 1) := by decide +kernel
theorem d_TB_token_38 : decode c_TB_token 38 = .ok (.aload_n 0, 1) := by decide +kernel
theorem d_TB_token_39 : decode c_TB_token 39 = .ok (.getfield 41, 3) := by decide +kernel
theorem d_TB_token_42 : decode c_TB_token 42 = .ok (.invokevirtual 120, 3) := by decide +kernel
theorem d_TB_token_45 : decode c_TB_token 45 = .ok (.iload_n 1, 1) := by decide +kernel
theorem d_TB_token_46 : decode c_TB_token 46 = .ok (.invokevirtual 133, 3) := by decide +kernel
theorem d_TB_token_49 : decode c_TB_token 49 = .ok (.ireturn, 1) := by decide +kernel
theorem d_TB_take_0 : decode c_TB_take 0 = .ok (.aload_n 0, 1) := by decide +kernel
theorem d_TB_take_1 : decode c_TB_take 1 = .ok (.getfield 41, 3) := by decide +kernel
theorem d_TB_take_4 : decode c_TB_take 4 = .ok (.invokevirtual 120, 3) := by decide +kernel
theorem d_TB_take_7 : decode c_TB_take 7 = .ok (.invokevirtual 124, 3) := by decide +kernel
theorem d_TB_take_10 : decode c_TB_take 10 = .ok (.ifCond .ne 11, 3) := by decide +kernel
theorem d_TB_take_13 : decode c_TB_take 13 = .ok (.new 127, 3) := by decide +kernel
theorem d_TB_take_16 : decode c_TB_take 16 = .ok (.dup, 1) := by decide +kernel
theorem d_TB_take_17 : decode c_TB_take 17 = .ok (.invokespecial 129, 3) := by decide +kernel
theorem d_TB_take_20 : decode c_TB_take 20 = .ok (.athrow, 1) := by decide +kernel
theorem d_TB_take_21 : decode c_TB_take 21 = .ok (.aload_n 0, 1) := by decide +kernel
theorem d_TB_take_22 : decode c_TB_take 22 = .ok (.getfield 41, 3) := by decide +kernel
theorem d_TB_take_25 : decode c_TB_take 25 = .ok (.invokevirtual 120, 3) := by decide +kernel
theorem d_TB_take_28 : decode c_TB_take 28 = .ok (.invokevirtual 136, 3) := by decide +kernel
theorem d_TB_take_31 : decode c_TB_take 31 = .ok (.return_, 1) := by decide +kernel
def p_TB_tokenR (v_o_stream_tokens_oldest : Int32) (v_o_stream_tokens_size : Int32) (f_o_stream_tokens_facts : (Nat → Int32)) (x1 : Int32) (post : Int32 → Prop) : Prop := (p_Stream_tokens  (p_TokenQueue_size v_o_stream_tokens_size (fun r1 => ((¬ r1 = 0 → ((x1 < 0 → False) ∧ (¬ x1 < 0 → ((x1 < 4 → (p_Stream_tokens  (p_TokenQueue_oldest v_o_stream_tokens_oldest f_o_stream_tokens_facts x1 (fun r2 => (post r2))))) ∧ (¬ x1 < 4 → False))))) ∧ (r1 = 0 → False)))))
set_option maxHeartbeats 4000000 in
set_option maxRecDepth 100000 in
theorem k_TB_tokenR (l : Launch) (G : va_G) (K : Nat → ClassId) (a0 a0_stream a0_stream_tokens a0_stream_tokens_facts a0_tape a0_text a0_book a0_comparison a0_stream_kept a0_stream_pending : Nat) (v_o_tapeLength : Int32) (v_o_stream_isThere : Int32) (v_o_stream_isEnded : Int32) (v_o_stream_mode : Int32) (v_o_stream_keptCount : Int32) (v_o_stream_came : Int32) (v_o_stream_pendingCount : Int32) (v_o_stream_looked : Int32) (v_o_stream_state : Int32) (v_o_stream_matched : Int32) (v_o_stream_matchedRule : Int32) (v_o_stream_tokens_oldest : Int32) (v_o_stream_tokens_size : Int32) (f_o_stream_tokens_facts : (Nat → Int32)) (x1 : Int32) (post : Int32 → Prop) (h : p_TB_tokenR v_o_stream_tokens_oldest v_o_stream_tokens_size f_o_stream_tokens_facts x1 post) : MSi l y_TB_token (.code y_TB_token c_TB_token 2 (some .int)) { frames := 1, cells := 0, slots := 0, locals := 21 } G K [(a0, .inr (0, [.ref a0_tape, .int v_o_tapeLength, .ref a0_text, .ref a0_book, .ref a0_comparison, .ref a0_stream])), (a0_stream, .inr (10, [.ref a0_stream_tokens, .int v_o_stream_isThere, .int v_o_stream_isEnded, .int v_o_stream_mode, .ref a0_stream_kept, .int v_o_stream_keptCount, .int v_o_stream_came, .ref a0_stream_pending, .int v_o_stream_pendingCount, .int v_o_stream_looked, .int v_o_stream_state, .int v_o_stream_matched, .int v_o_stream_matchedRule])), (a0_stream_tokens, .inr (11, [.ref a0_stream_tokens_facts, .int v_o_stream_tokens_oldest, .int v_o_stream_tokens_size])), (a0_stream_tokens_facts, .inl (K 0, 288, .inl f_o_stream_tokens_facts))] [.ref a0, .int x1] post := by
  refine g_metSi (cc := c_TB_token) (maxL := 2) (ret := some .int) (rt := .int) (by decide) rfl rfl (Nat.le_of_ble_eq_true rfl) ?_
  intro p e s m below meth c Q hx hb hml hown htg hK hN hP hret ls hl
  have hl : lv_has ls 2 [(0, .ref a0), (1, .int x1)] := hl
  refine lv_aload_n hx hb d_TB_token_0 rfl (lv_at hl 0 rfl) ?_
  refine va_get (ci := 0) (v := .ref a0_stream) hx hb htg in_TB hown hK hP 0 rfl rfl 5 (by decide) (htg _ m_196) (fun _ h9 => h9) rfl d_TB_token_1 ?_
  have hPc : va_P G vwCl [(a0_stream, .inr (10, [.ref a0_stream_tokens, .int v_o_stream_isThere, .int v_o_stream_isEnded, .int v_o_stream_mode, .ref a0_stream_kept, .int v_o_stream_keptCount, .int v_o_stream_came, .ref a0_stream_pending, .int v_o_stream_pendingCount, .int v_o_stream_looked, .int v_o_stream_state, .int v_o_stream_matched, .int v_o_stream_matchedRule]))] _ := hP.sub [1] rfl
  refine va_csr (va_Run.run (va_runV (As := []) (rest := []) ⟨hx, hb, hml, hown, htg⟩ (k_Stream_tokens l G K a0_stream a0_stream_tokens a0_stream_kept a0_stream_pending v_o_stream_isThere v_o_stream_isEnded v_o_stream_mode v_o_stream_keptCount v_o_stream_came v_o_stream_pendingCount v_o_stream_looked v_o_stream_state v_o_stream_matched v_o_stream_matchedRule _ h) (cwV 0 htg (gGoodV m_571 m_572 m_573 m_11 m_574) rfl rfl rfl (by decide +kernel) ⟨(Nat.le_of_ble_eq_true rfl), (Nat.le_of_ble_eq_true rfl)⟩) (gS_preV (ci := 10) (q0 := 0) hK hN hPc rfl rfl) rfl rfl hl.1 rfl (lv_room (Nat.le_of_ble_eq_true rfl)) d_TB_token_4 ⟨(Nat.le_of_ble_eq_true rfl), (Nat.le_of_ble_eq_true rfl)⟩)) (fun kz hz => ?_)
  obtain ⟨hz, h⟩ := hz
  rw [hz]
  have hPc : va_P G vwCl [(a0_stream_tokens, .inr (11, [.ref a0_stream_tokens_facts, .int v_o_stream_tokens_oldest, .int v_o_stream_tokens_size]))] _ := hP.sub [2] rfl
  refine vp_callSi (va_Run.run (va_runV (As := []) (rest := []) ⟨hx, hb, hml, hown, htg⟩ (k_TokenQueue_size l G K a0_stream_tokens a0_stream_tokens_facts v_o_stream_tokens_oldest v_o_stream_tokens_size _ h) (cwV 0 htg (gGoodV m_575 m_515 m_516 m_12 m_517) rfl rfl rfl (by decide +kernel) ⟨(Nat.le_of_ble_eq_true rfl), (Nat.le_of_ble_eq_true rfl)⟩) (gS_preV (ci := 11) (q0 := 0) hK hN hPc rfl rfl) rfl rfl hl.1 rfl (lv_room (Nat.le_of_ble_eq_true rfl)) d_TB_token_7 ⟨(Nat.le_of_ble_eq_true rfl), (Nat.le_of_ble_eq_true rfl)⟩)) (fun r1 h => ?_)
  refine lv_if_ne (tgt := 21) hx hb d_TB_token_10 (by decide) (fun hc => ?_) (fun hc => ?_)
  · replace h := h.1 hc
    refine lv_iload_n hx hb d_TB_token_21 rfl (lv_at hl 1 rfl) ?_
    refine lv_if_lt (tgt := 30) hx hb d_TB_token_22 (by decide) (fun hc => ?_) (fun hc => ?_)
    · replace h := h.1 hc
      exact False.elim h
    · replace h := h.2 hc
      refine lv_iload_n hx hb d_TB_token_25 rfl (lv_at hl 1 rfl) ?_
      refine lv_iconst (v := 4) hx hb d_TB_token_26 (by decide) ?_
      refine lv_icmp_lt (tgt := 38) hx hb d_TB_token_27 (by decide) (fun hc => ?_) (fun hc => ?_)
      · replace h := h.1 hc
        refine lv_aload_n hx hb d_TB_token_38 rfl (lv_at hl 0 rfl) ?_
        refine va_get (ci := 0) (v := .ref a0_stream) hx hb htg in_TB hown hK hP 0 rfl rfl 5 (by decide) (htg _ m_196) (fun _ h9 => h9) rfl d_TB_token_39 ?_
        have hPc : va_P G vwCl [(a0_stream, .inr (10, [.ref a0_stream_tokens, .int v_o_stream_isThere, .int v_o_stream_isEnded, .int v_o_stream_mode, .ref a0_stream_kept, .int v_o_stream_keptCount, .int v_o_stream_came, .ref a0_stream_pending, .int v_o_stream_pendingCount, .int v_o_stream_looked, .int v_o_stream_state, .int v_o_stream_matched, .int v_o_stream_matchedRule]))] _ := hP.sub [1] rfl
        refine va_csr (va_Run.run (va_runV (As := []) (rest := []) ⟨hx, hb, hml, hown, htg⟩ (k_Stream_tokens l G K a0_stream a0_stream_tokens a0_stream_kept a0_stream_pending v_o_stream_isThere v_o_stream_isEnded v_o_stream_mode v_o_stream_keptCount v_o_stream_came v_o_stream_pendingCount v_o_stream_looked v_o_stream_state v_o_stream_matched v_o_stream_matchedRule _ h) (cwV 0 htg (gGoodV m_571 m_572 m_573 m_11 m_574) rfl rfl rfl (by decide +kernel) ⟨(Nat.le_of_ble_eq_true rfl), (Nat.le_of_ble_eq_true rfl)⟩) (gS_preV (ci := 10) (q0 := 0) hK hN hPc rfl rfl) rfl rfl hl.1 rfl (lv_room (Nat.le_of_ble_eq_true rfl)) d_TB_token_42 ⟨(Nat.le_of_ble_eq_true rfl), (Nat.le_of_ble_eq_true rfl)⟩)) (fun kz hz => ?_)
        obtain ⟨hz, h⟩ := hz
        rw [hz]
        refine lv_iload_n hx hb d_TB_token_45 rfl (lv_at hl 1 rfl) ?_
        have hPc : va_P G vwCl [(a0_stream_tokens, .inr (11, [.ref a0_stream_tokens_facts, .int v_o_stream_tokens_oldest, .int v_o_stream_tokens_size])), (a0_stream_tokens_facts, .inl (K 0, 288, .inl f_o_stream_tokens_facts))] _ := hP.sub [2, 3] rfl
        refine vp_callSi (va_Run.run (va_runV (As := [.int x1]) (rest := []) ⟨hx, hb, hml, hown, htg⟩ (k_TokenQueue_oldest l G K a0_stream_tokens a0_stream_tokens_facts v_o_stream_tokens_oldest v_o_stream_tokens_size f_o_stream_tokens_facts x1 _ h) (cwV 1 htg (gGoodV m_592 m_593 m_594 m_12 m_595) rfl rfl rfl (by decide +kernel) ⟨(Nat.le_of_ble_eq_true rfl), (Nat.le_of_ble_eq_true rfl)⟩) (gS_preV (ci := 11) (q0 := 0) hK hN hPc rfl rfl) rfl rfl hl.1 rfl (lv_room (Nat.le_of_ble_eq_true rfl)) d_TB_token_46 ⟨(Nat.le_of_ble_eq_true rfl), (Nat.le_of_ble_eq_true rfl)⟩)) (fun r2 h => ?_)
        exact hret _ _ _ h (vp_nar_int _) d_TB_token_49
      · replace h := h.2 hc
        exact False.elim h
  · replace h := h.2 hc
    exact False.elim h
def p_TB_takeR (v_o_stream_tokens_oldest : Int32) (v_o_stream_tokens_size : Int32) (post : Int32 → Int32 → Prop) : Prop := (p_Stream_tokens  (p_TokenQueue_size v_o_stream_tokens_size (fun r1 => ((¬ r1 = 0 → (p_Stream_tokens  (p_TokenQueue_drop v_o_stream_tokens_oldest v_o_stream_tokens_size (fun u2 u3 => (post u2 u3))))) ∧ (r1 = 0 → False)))))
set_option maxHeartbeats 4000000 in
set_option maxRecDepth 100000 in
theorem k_TB_takeR (l : Launch) (G : va_G) (K : Nat → ClassId) (a0 a0_stream a0_stream_tokens a0_tape a0_text a0_book a0_comparison a0_stream_kept a0_stream_pending a0_stream_tokens_facts : Nat) (sz : Nat) (v_o_tapeLength : Int32) (v_o_stream_isThere : Int32) (v_o_stream_isEnded : Int32) (v_o_stream_mode : Int32) (v_o_stream_keptCount : Int32) (v_o_stream_came : Int32) (v_o_stream_pendingCount : Int32) (v_o_stream_looked : Int32) (v_o_stream_state : Int32) (v_o_stream_matched : Int32) (v_o_stream_matchedRule : Int32) (v_o_stream_tokens_oldest : Int32) (v_o_stream_tokens_size : Int32) (post : Int32 → Int32 → Prop) (h : p_TB_takeR v_o_stream_tokens_oldest v_o_stream_tokens_size post) : MWv l y_TB_take (.code y_TB_take c_TB_take 1 none) { frames := 1, cells := 0, slots := 0, locals := 20 } G K [(a0_stream_tokens, .inr (11, [.ref a0_stream_tokens_facts, .int v_o_stream_tokens_oldest, .int v_o_stream_tokens_size]))] [(a0, .inr (0, [.ref a0_tape, .int v_o_tapeLength, .ref a0_text, .ref a0_book, .ref a0_comparison, .ref a0_stream])), (a0_stream, .inr (10, [.ref a0_stream_tokens, .int v_o_stream_isThere, .int v_o_stream_isEnded, .int v_o_stream_mode, .ref a0_stream_kept, .int v_o_stream_keptCount, .int v_o_stream_came, .ref a0_stream_pending, .int v_o_stream_pendingCount, .int v_o_stream_looked, .int v_o_stream_state, .int v_o_stream_matched, .int v_o_stream_matchedRule]))] [.ref a0] sz (fun (u : Int32 × Int32) => post u.1 u.2) (fun u => [(a0_stream_tokens, .inr (11, [.ref a0_stream_tokens_facts, .int u.1, .int u.2]))]) 0 0 := by
  refine g_metWv (cc := c_TB_take) (maxL := 1) (ret := none) (by decide) rfl rfl (Nat.le_of_ble_eq_true rfl) ?_
  intro p e s m below meth c A Q hx hb hml hown hname htg hK hN hP hD hA hS hR rN hret ls hl
  have hl : lv_has ls 1 [(0, .ref a0)] := hl
  refine lv_aload_n hx hb d_TB_take_0 rfl (lv_at hl 0 rfl) ?_
  refine va_get (ci := 0) (v := .ref a0_stream) hx hb htg in_TB hown hK (gR hR rN hS) 0 rfl rfl 5 (by decide) (htg _ m_196) (fun _ h9 => h9) rfl d_TB_take_1 ?_
  have hPc : va_P G vwCl [(a0_stream, .inr (10, [.ref a0_stream_tokens, .int v_o_stream_isThere, .int v_o_stream_isEnded, .int v_o_stream_mode, .ref a0_stream_kept, .int v_o_stream_keptCount, .int v_o_stream_came, .ref a0_stream_pending, .int v_o_stream_pendingCount, .int v_o_stream_looked, .int v_o_stream_state, .int v_o_stream_matched, .int v_o_stream_matchedRule]))] _ := (gR hR rN hS).sub [1] rfl
  refine va_csr (va_Run.run (va_runV (As := []) (rest := []) ⟨hx, hb, hml, hown, htg⟩ (k_Stream_tokens l G K a0_stream a0_stream_tokens a0_stream_kept a0_stream_pending v_o_stream_isThere v_o_stream_isEnded v_o_stream_mode v_o_stream_keptCount v_o_stream_came v_o_stream_pendingCount v_o_stream_looked v_o_stream_state v_o_stream_matched v_o_stream_matchedRule _ h) (cwV 0 htg (gGoodV m_571 m_572 m_573 m_11 m_574) rfl rfl rfl (by decide +kernel) ⟨(Nat.le_of_ble_eq_true rfl), (Nat.le_of_ble_eq_true rfl)⟩) (gS_preV (ci := 10) (q0 := 0) hK hN hPc rfl rfl) rfl rfl hl.1 rfl (lv_room (Nat.le_of_ble_eq_true rfl)) d_TB_take_4 ⟨(Nat.le_of_ble_eq_true rfl), (Nat.le_of_ble_eq_true rfl)⟩)) (fun kz hz => ?_)
  obtain ⟨hz, h⟩ := hz
  rw [hz]
  have hPc : va_P G vwCl [(a0_stream_tokens, .inr (11, [.ref a0_stream_tokens_facts, .int v_o_stream_tokens_oldest, .int v_o_stream_tokens_size]))] _ := hP.sub [0] rfl
  refine vp_callSi (va_Run.run (va_runV (As := []) (rest := []) ⟨hx, hb, hml, hown, htg⟩ (k_TokenQueue_size l G K a0_stream_tokens a0_stream_tokens_facts v_o_stream_tokens_oldest v_o_stream_tokens_size _ h) (cwV 0 htg (gGoodV m_575 m_515 m_516 m_12 m_517) rfl rfl rfl (by decide +kernel) ⟨(Nat.le_of_ble_eq_true rfl), (Nat.le_of_ble_eq_true rfl)⟩) (gS_preV (ci := 11) (q0 := 0) hK hN hPc rfl rfl) rfl rfl hl.1 rfl (lv_room (Nat.le_of_ble_eq_true rfl)) d_TB_take_7 ⟨(Nat.le_of_ble_eq_true rfl), (Nat.le_of_ble_eq_true rfl)⟩)) (fun r1 h => ?_)
  refine lv_if_ne (tgt := 21) hx hb d_TB_take_10 (by decide) (fun hc => ?_) (fun hc => ?_)
  · replace h := h.1 hc
    refine lv_aload_n hx hb d_TB_take_21 rfl (lv_at hl 0 rfl) ?_
    refine va_get (ci := 0) (v := .ref a0_stream) hx hb htg in_TB hown hK (gR hR rN hS) 0 rfl rfl 5 (by decide) (htg _ m_196) (fun _ h9 => h9) rfl d_TB_take_22 ?_
    have hPc : va_P G vwCl [(a0_stream, .inr (10, [.ref a0_stream_tokens, .int v_o_stream_isThere, .int v_o_stream_isEnded, .int v_o_stream_mode, .ref a0_stream_kept, .int v_o_stream_keptCount, .int v_o_stream_came, .ref a0_stream_pending, .int v_o_stream_pendingCount, .int v_o_stream_looked, .int v_o_stream_state, .int v_o_stream_matched, .int v_o_stream_matchedRule]))] _ := (gR hR rN hS).sub [1] rfl
    refine va_csr (va_Run.run (va_runV (As := []) (rest := []) ⟨hx, hb, hml, hown, htg⟩ (k_Stream_tokens l G K a0_stream a0_stream_tokens a0_stream_kept a0_stream_pending v_o_stream_isThere v_o_stream_isEnded v_o_stream_mode v_o_stream_keptCount v_o_stream_came v_o_stream_pendingCount v_o_stream_looked v_o_stream_state v_o_stream_matched v_o_stream_matchedRule _ h) (cwV 0 htg (gGoodV m_571 m_572 m_573 m_11 m_574) rfl rfl rfl (by decide +kernel) ⟨(Nat.le_of_ble_eq_true rfl), (Nat.le_of_ble_eq_true rfl)⟩) (gS_preV (ci := 10) (q0 := 0) hK hN hPc rfl rfl) rfl rfl hl.1 rfl (lv_room (Nat.le_of_ble_eq_true rfl)) d_TB_take_25 ⟨(Nat.le_of_ble_eq_true rfl), (Nat.le_of_ble_eq_true rfl)⟩)) (fun kz hz => ?_)
    obtain ⟨hz, h⟩ := hz
    rw [hz]
    have hPc : va_P G vwCl [(a0_stream_tokens, .inr (11, [.ref a0_stream_tokens_facts, .int v_o_stream_tokens_oldest, .int v_o_stream_tokens_size]))] _ := hP.sub [0] rfl
    have hDc : va_D A [(a0_stream_tokens, .inr (11, [.ref a0_stream_tokens_facts, .int v_o_stream_tokens_oldest, .int v_o_stream_tokens_size]))] := hD.sub [0] (by decide) rfl
    have hRc : va_P G vwCl [] _ := hP.sub [] rfl
    have hJc : gJ [(a0_stream_tokens, .inr (11, [.ref a0_stream_tokens_facts, .int v_o_stream_tokens_oldest, .int v_o_stream_tokens_size]))] [] := gJ_nil
    refine g_callv (wr := []) (va_runV (As := []) (rest := []) ⟨hx, hb, hml, hown, htg⟩ (k_TokenQueue_drop l G K a0_stream_tokens a0_stream_tokens_facts _ v_o_stream_tokens_oldest v_o_stream_tokens_size _ h) (cwV 0 htg (gGoodV m_600 m_601 m_602 m_12 m_603) rfl rfl rfl (by decide +kernel) ⟨(Nat.le_of_ble_eq_true rfl), (Nat.le_of_ble_eq_true rfl)⟩) (gW_preV (ci := 11) (q0 := 0) hK hN hPc hDc hRc hJc hPc rfl rfl) rfl rfl hl.1 rfl (lv_room (Nat.le_of_ble_eq_true rfl)) d_TB_take_28 ⟨(Nat.le_of_ble_eq_true rfl), (Nat.le_of_ble_eq_true rfl)⟩) hP hD hS hA [0] [] rfl rfl (by decide) (by decide) (fun u H locs h hP hD hS => ?_)
    obtain ⟨u2, u3⟩ := u
    try dsimp only at h
    have hP : va_P G vwCl [(a0_stream_tokens, .inr (11, [.ref a0_stream_tokens_facts, .int u2, .int u3]))] H := hP
    have hD : va_D A [(a0_stream_tokens, .inr (11, [.ref a0_stream_tokens_facts, .int u2, .int u3]))] := hD
    exact hret (u2, u3) _ _ _ _ h (hP.sub [0] rfl) (hD.sub [0] (by decide) rfl) hS d_TB_take_31
  · replace h := h.2 hc
    exact False.elim h
