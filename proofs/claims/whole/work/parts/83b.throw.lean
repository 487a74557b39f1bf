set_option maxHeartbeats 4000000 in
set_option maxRecDepth 100000 in
theorem k_TB_tokenT1 (l : Launch) (htr : ∀ e, l.admits e → e.platform.stackTraces = false) (G : va_G) (K : Nat → ClassId) (a0 : Nat) (a0_stream : Nat) (a0_stream_tokens : Nat) (a0_stream_tokens_facts : Nat) (a0_tape : Nat) (a0_text : Nat) (a0_book : Nat) (a0_comparison : Nat) (a0_stream_kept : Nat) (a0_stream_pending : Nat) (v_o_tapeLength : Int32) (v_o_stream_isThere : Int32) (v_o_stream_isEnded : Int32) (v_o_stream_mode : Int32) (v_o_stream_keptCount : Int32) (v_o_stream_came : Int32) (v_o_stream_pendingCount : Int32) (v_o_stream_looked : Int32) (v_o_stream_state : Int32) (v_o_stream_matched : Int32) (v_o_stream_matchedRule : Int32) (v_o_stream_tokens_oldest : Int32) (v_o_stream_tokens_size : Int32) (f_o_stream_tokens_facts : (Nat → Int32)) (x1 : Int32) (h0 : v_o_stream_tokens_size = 0) : MetT l y_TB_token ((.code y_TB_token c_TB_token 2 (some .int)) :: ET) { frames := 6, cells := 1, slots := 6, locals := 81 } (PT G K [(a0, .inr (0, [.ref a0_tape, .int v_o_tapeLength, .ref a0_text, .ref a0_book, .ref a0_comparison, .ref a0_stream])), (a0_stream, .inr (10, [.ref a0_stream_tokens, .int v_o_stream_isThere, .int v_o_stream_isEnded, .int v_o_stream_mode, .ref a0_stream_kept, .int v_o_stream_keptCount, .int v_o_stream_came, .ref a0_stream_pending, .int v_o_stream_pendingCount, .int v_o_stream_looked, .int v_o_stream_state, .int v_o_stream_matched, .int v_o_stream_matchedRule])), (a0_stream_tokens, .inr (11, [.ref a0_stream_tokens_facts, .int v_o_stream_tokens_oldest, .int v_o_stream_tokens_size])), (a0_stream_tokens_facts, .inl (K 0, 288, .inl f_o_stream_tokens_facts))] [.ref a0, .int x1]) "java/util/NoSuchElementException" 1 6 := by
  refine MetT.ofW (cc := c_TB_token) (maxL := 2) (ret := (some .int)) (ws' := ET) (by decide) rfl ?_
  intro p e s m args below meth c s₁ B hml hadm hout hv
  obtain ⟨⟨rfl, hP, hK, hN⟩, hZ⟩ := hv
  have hts := atoms_spec (ws := (Cond.code y_TB_token c_TB_token 2 (some .int)) :: ET) B.pre
  have htx : ∀ w ∈ XT, w.before _ s = true := fun w h => hts w (List.mem_cons_of_mem _ (XT_ET w h))
  have htg : ∀ w ∈ GT, w.before _ s = true := fun w h => hts w (List.mem_cons_of_mem _ (GT_ET w h))
  have hx := B.exec
  have hb := B.bytes
  have hown := findClass_of_methodNamed B.named
  have hlocks := B.notSynchronized
  have hl := lv_entry [.ref a0, .int x1] (n := 2) (Nat.le_of_ble_eq_true rfl)
  rw [lg_entry_eq]
  generalize (lg_sl [.ref a0, .int x1] ++ List.replicate (2 - (lg_sl [.ref a0, .int x1]).length) Slot.unset).toArray = ls at hl ⊢
  have hl : lv_has ls 2 [(0, .ref a0), (1, .int x1)] := hl
  refine lv_aload_n hx hb d_TB_token_0 rfl (lv_at hl 0 rfl) ?_
  refine va_get (ci := 0) (v := .ref a0_stream) hx hb htg in_TB hown hK hP 0 rfl rfl 5 (by decide) (htg _ m_196) (fun _ h9 => h9) rfl d_TB_token_1 ?_
  have hPc : va_P G vwCl [(a0_stream, .inr (10, [.ref a0_stream_tokens, .int v_o_stream_isThere, .int v_o_stream_isEnded, .int v_o_stream_mode, .ref a0_stream_kept, .int v_o_stream_keptCount, .int v_o_stream_came, .ref a0_stream_pending, .int v_o_stream_pendingCount, .int v_o_stream_looked, .int v_o_stream_state, .int v_o_stream_matched, .int v_o_stream_matchedRule]))] _ := hP.sub [1] rfl
  refine va_csr (va_Run.run (va_runV (As := []) (rest := []) ⟨hx, hb, hml, hown, htg⟩ (k_Stream_tokens l G K a0_stream a0_stream_tokens a0_stream_kept a0_stream_pending v_o_stream_isThere v_o_stream_isEnded v_o_stream_mode v_o_stream_keptCount v_o_stream_came v_o_stream_pendingCount v_o_stream_looked v_o_stream_state v_o_stream_matched v_o_stream_matchedRule True trivial) (cwV 0 htg (gGoodV m_571 m_572 m_573 m_11 m_574) rfl rfl rfl (by decide +kernel) ⟨(Nat.le_of_ble_eq_true rfl), (Nat.le_of_ble_eq_true rfl)⟩) (gS_preV (ci := 10) (q0 := 0) hK hN hPc rfl rfl) rfl rfl hl.1 rfl (lv_room (Nat.le_of_ble_eq_true rfl)) d_TB_token_4 ⟨(Nat.le_of_ble_eq_true rfl), (Nat.le_of_ble_eq_true rfl)⟩)) (fun kz hz => ?_)
  obtain ⟨hz, -⟩ := hz
  rw [hz]
  have hPc : va_P G vwCl [(a0_stream_tokens, .inr (11, [.ref a0_stream_tokens_facts, .int v_o_stream_tokens_oldest, .int v_o_stream_tokens_size]))] _ := hP.sub [2] rfl
  refine vp_callSi (va_Run.run (va_runV (As := []) (rest := []) ⟨hx, hb, hml, hown, htg⟩ (k_TokenQueue_size l G K a0_stream_tokens a0_stream_tokens_facts v_o_stream_tokens_oldest v_o_stream_tokens_size (fun r => r = v_o_stream_tokens_size) rfl) (cwV 0 htg (gGoodV m_575 m_515 m_516 m_12 m_517) rfl rfl rfl (by decide +kernel) ⟨(Nat.le_of_ble_eq_true rfl), (Nat.le_of_ble_eq_true rfl)⟩) (gS_preV (ci := 11) (q0 := 0) hK hN hPc rfl rfl) rfl rfl hl.1 rfl (lv_room (Nat.le_of_ble_eq_true rfl)) d_TB_token_7 ⟨(Nat.le_of_ble_eq_true rfl), (Nat.le_of_ble_eq_true rfl)⟩)) (fun r1 h => ?_)
  refine lv_if_ne (tgt := 21) hx hb d_TB_token_10 (by decide) (fun hc => ?_) (fun hc => ?_)
  · exact absurd (h.trans h0) hc
  · exact g_throw0 hx hb (htr e hadm) (own := "TokenBench") (cls := "java/util/NoSuchElementException") (names := ["java/lang/RuntimeException", "java/lang/Exception"]) (ik := 127) (ic := 129) hown (by decide +kernel) (by decide +kernel) (own_ok (by decide +kernel) htx hZ) (htx _ (by decide +kernel)) (htx _ (by decide +kernel)) (htx _ (by decide +kernel)) (Nat.le_refl _) (hl.1.trans hml.symm) hout hlocks d_TB_token_13 d_TB_token_16 d_TB_token_17 d_TB_token_20 (Nat.le_of_ble_eq_true rfl) (Nat.le_of_ble_eq_true rfl) (Nat.le_of_ble_eq_true rfl) (Nat.le_of_ble_eq_true rfl)
set_option maxHeartbeats 4000000 in
set_option maxRecDepth 100000 in
theorem k_TB_tokenT2 (l : Launch) (htr : ∀ e, l.admits e → e.platform.stackTraces = false) (G : va_G) (K : Nat → ClassId) (a0 : Nat) (a0_stream : Nat) (a0_stream_tokens : Nat) (a0_stream_tokens_facts : Nat) (a0_tape : Nat) (a0_text : Nat) (a0_book : Nat) (a0_comparison : Nat) (a0_stream_kept : Nat) (a0_stream_pending : Nat) (v_o_tapeLength : Int32) (v_o_stream_isThere : Int32) (v_o_stream_isEnded : Int32) (v_o_stream_mode : Int32) (v_o_stream_keptCount : Int32) (v_o_stream_came : Int32) (v_o_stream_pendingCount : Int32) (v_o_stream_looked : Int32) (v_o_stream_state : Int32) (v_o_stream_matched : Int32) (v_o_stream_matchedRule : Int32) (v_o_stream_tokens_oldest : Int32) (v_o_stream_tokens_size : Int32) (f_o_stream_tokens_facts : (Nat → Int32)) (x1 : Int32) (h0 : ¬ v_o_stream_tokens_size = 0) (hr : x1 < 0 ∨ ¬ x1 < 4) : MetT l y_TB_token ((.code y_TB_token c_TB_token 2 (some .int)) :: ET) { frames := 6, cells := 1, slots := 6, locals := 81 } (PT G K [(a0, .inr (0, [.ref a0_tape, .int v_o_tapeLength, .ref a0_text, .ref a0_book, .ref a0_comparison, .ref a0_stream])), (a0_stream, .inr (10, [.ref a0_stream_tokens, .int v_o_stream_isThere, .int v_o_stream_isEnded, .int v_o_stream_mode, .ref a0_stream_kept, .int v_o_stream_keptCount, .int v_o_stream_came, .ref a0_stream_pending, .int v_o_stream_pendingCount, .int v_o_stream_looked, .int v_o_stream_state, .int v_o_stream_matched, .int v_o_stream_matchedRule])), (a0_stream_tokens, .inr (11, [.ref a0_stream_tokens_facts, .int v_o_stream_tokens_oldest, .int v_o_stream_tokens_size])), (a0_stream_tokens_facts, .inl (K 0, 288, .inl f_o_stream_tokens_facts))] [.ref a0, .int x1]) "java/lang/IndexOutOfBoundsException" 1 6 := by
  refine MetT.ofW (cc := c_TB_token) (maxL := 2) (ret := (some .int)) (ws' := ET) (by decide) rfl ?_
  intro p e s m args below meth c s₁ B hml hadm hout hv
  obtain ⟨⟨rfl, hP, hK, hN⟩, hZ⟩ := hv
  have hts := atoms_spec (ws := (Cond.code y_TB_token c_TB_token 2 (some .int)) :: ET) B.pre
  have htx : ∀ w ∈ XT, w.before _ s = true := fun w h => hts w (List.mem_cons_of_mem _ (XT_ET w h))
  have htg : ∀ w ∈ GT, w.before _ s = true := fun w h => hts w (List.mem_cons_of_mem _ (GT_ET w h))
  have hx := B.exec
  have hb := B.bytes
  have hown := findClass_of_methodNamed B.named
  have hlocks := B.notSynchronized
  have hl := lv_entry [.ref a0, .int x1] (n := 2) (Nat.le_of_ble_eq_true rfl)
  rw [lg_entry_eq]
  generalize (lg_sl [.ref a0, .int x1] ++ List.replicate (2 - (lg_sl [.ref a0, .int x1]).length) Slot.unset).toArray = ls at hl ⊢
  have hl : lv_has ls 2 [(0, .ref a0), (1, .int x1)] := hl
  refine lv_aload_n hx hb d_TB_token_0 rfl (lv_at hl 0 rfl) ?_
  refine va_get (ci := 0) (v := .ref a0_stream) hx hb htg in_TB hown hK hP 0 rfl rfl 5 (by decide) (htg _ m_196) (fun _ h9 => h9) rfl d_TB_token_1 ?_
  have hPc : va_P G vwCl [(a0_stream, .inr (10, [.ref a0_stream_tokens, .int v_o_stream_isThere, .int v_o_stream_isEnded, .int v_o_stream_mode, .ref a0_stream_kept, .int v_o_stream_keptCount, .int v_o_stream_came, .ref a0_stream_pending, .int v_o_stream_pendingCount, .int v_o_stream_looked, .int v_o_stream_state, .int v_o_stream_matched, .int v_o_stream_matchedRule]))] _ := hP.sub [1] rfl
  refine va_csr (va_Run.run (va_runV (As := []) (rest := []) ⟨hx, hb, hml, hown, htg⟩ (k_Stream_tokens l G K a0_stream a0_stream_tokens a0_stream_kept a0_stream_pending v_o_stream_isThere v_o_stream_isEnded v_o_stream_mode v_o_stream_keptCount v_o_stream_came v_o_stream_pendingCount v_o_stream_looked v_o_stream_state v_o_stream_matched v_o_stream_matchedRule True trivial) (cwV 0 htg (gGoodV m_571 m_572 m_573 m_11 m_574) rfl rfl rfl (by decide +kernel) ⟨(Nat.le_of_ble_eq_true rfl), (Nat.le_of_ble_eq_true rfl)⟩) (gS_preV (ci := 10) (q0 := 0) hK hN hPc rfl rfl) rfl rfl hl.1 rfl (lv_room (Nat.le_of_ble_eq_true rfl)) d_TB_token_4 ⟨(Nat.le_of_ble_eq_true rfl), (Nat.le_of_ble_eq_true rfl)⟩)) (fun kz hz => ?_)
  obtain ⟨hz, -⟩ := hz
  rw [hz]
  have hPc : va_P G vwCl [(a0_stream_tokens, .inr (11, [.ref a0_stream_tokens_facts, .int v_o_stream_tokens_oldest, .int v_o_stream_tokens_size]))] _ := hP.sub [2] rfl
  refine vp_callSi (va_Run.run (va_runV (As := []) (rest := []) ⟨hx, hb, hml, hown, htg⟩ (k_TokenQueue_size l G K a0_stream_tokens a0_stream_tokens_facts v_o_stream_tokens_oldest v_o_stream_tokens_size (fun r => r = v_o_stream_tokens_size) rfl) (cwV 0 htg (gGoodV m_575 m_515 m_516 m_12 m_517) rfl rfl rfl (by decide +kernel) ⟨(Nat.le_of_ble_eq_true rfl), (Nat.le_of_ble_eq_true rfl)⟩) (gS_preV (ci := 11) (q0 := 0) hK hN hPc rfl rfl) rfl rfl hl.1 rfl (lv_room (Nat.le_of_ble_eq_true rfl)) d_TB_token_7 ⟨(Nat.le_of_ble_eq_true rfl), (Nat.le_of_ble_eq_true rfl)⟩)) (fun r1 h => ?_)
  refine lv_if_ne (tgt := 21) hx hb d_TB_token_10 (by decide) (fun hc => ?_) (fun hc => ?_)
  · refine lv_iload_n hx hb d_TB_token_21 rfl (lv_at hl 1 rfl) ?_
    refine lv_if_lt (tgt := 30) hx hb d_TB_token_22 (by decide) (fun hc => ?_) (fun hc => ?_)
    · exact g_throw0 hx hb (htr e hadm) (own := "TokenBench") (cls := "java/lang/IndexOutOfBoundsException") (names := ["java/lang/RuntimeException", "java/lang/Exception"]) (ik := 130) (ic := 132) hown (by decide +kernel) (by decide +kernel) (own_ok (by decide +kernel) htx hZ) (htx _ (by decide +kernel)) (htx _ (by decide +kernel)) (htx _ (by decide +kernel)) (Nat.le_refl _) (hl.1.trans hml.symm) hout hlocks d_TB_token_30 d_TB_token_33 d_TB_token_34 d_TB_token_37 (Nat.le_of_ble_eq_true rfl) (Nat.le_of_ble_eq_true rfl) (Nat.le_of_ble_eq_true rfl) (Nat.le_of_ble_eq_true rfl)
    · refine lv_iload_n hx hb d_TB_token_25 rfl (lv_at hl 1 rfl) ?_
      refine lv_iconst (v := 4) hx hb d_TB_token_26 (by decide) ?_
      refine lv_icmp_lt (tgt := 38) hx hb d_TB_token_27 (by decide) (fun hc2 => ?_) (fun hc2 => ?_)
      · exact absurd hr (fun z => z.elim (fun z => hc z) (fun z => z hc2))
      · exact g_throw0 hx hb (htr e hadm) (own := "TokenBench") (cls := "java/lang/IndexOutOfBoundsException") (names := ["java/lang/RuntimeException", "java/lang/Exception"]) (ik := 130) (ic := 132) hown (by decide +kernel) (by decide +kernel) (own_ok (by decide +kernel) htx hZ) (htx _ (by decide +kernel)) (htx _ (by decide +kernel)) (htx _ (by decide +kernel)) (Nat.le_refl _) (hl.1.trans hml.symm) hout hlocks d_TB_token_30 d_TB_token_33 d_TB_token_34 d_TB_token_37 (Nat.le_of_ble_eq_true rfl) (Nat.le_of_ble_eq_true rfl) (Nat.le_of_ble_eq_true rfl) (Nat.le_of_ble_eq_true rfl)
  · exact absurd (h.symm.trans hc) h0
set_option maxHeartbeats 4000000 in
set_option maxRecDepth 100000 in
theorem k_TB_takeT1 (l : Launch) (htr : ∀ e, l.admits e → e.platform.stackTraces = false) (G : va_G) (K : Nat → ClassId) (a0 : Nat) (a0_stream : Nat) (a0_stream_tokens : Nat) (a0_tape : Nat) (a0_text : Nat) (a0_book : Nat) (a0_comparison : Nat) (a0_stream_kept : Nat) (a0_stream_pending : Nat) (a0_stream_tokens_facts : Nat) (v_o_tapeLength : Int32) (v_o_stream_isThere : Int32) (v_o_stream_isEnded : Int32) (v_o_stream_mode : Int32) (v_o_stream_keptCount : Int32) (v_o_stream_came : Int32) (v_o_stream_pendingCount : Int32) (v_o_stream_looked : Int32) (v_o_stream_state : Int32) (v_o_stream_matched : Int32) (v_o_stream_matchedRule : Int32) (v_o_stream_tokens_oldest : Int32) (v_o_stream_tokens_size : Int32) (h0 : v_o_stream_tokens_size = 0) : MetT l y_TB_take ((.code y_TB_take c_TB_take 1 none) :: ET) { frames := 6, cells := 1, slots := 6, locals := 81 } (PT G K [(a0, .inr (0, [.ref a0_tape, .int v_o_tapeLength, .ref a0_text, .ref a0_book, .ref a0_comparison, .ref a0_stream])), (a0_stream, .inr (10, [.ref a0_stream_tokens, .int v_o_stream_isThere, .int v_o_stream_isEnded, .int v_o_stream_mode, .ref a0_stream_kept, .int v_o_stream_keptCount, .int v_o_stream_came, .ref a0_stream_pending, .int v_o_stream_pendingCount, .int v_o_stream_looked, .int v_o_stream_state, .int v_o_stream_matched, .int v_o_stream_matchedRule])), (a0_stream_tokens, .inr (11, [.ref a0_stream_tokens_facts, .int v_o_stream_tokens_oldest, .int v_o_stream_tokens_size]))] [.ref a0]) "java/util/NoSuchElementException" 1 6 := by
  refine MetT.ofW (cc := c_TB_take) (maxL := 1) (ret := none) (ws' := ET) (by decide) rfl ?_
  intro p e s m args below meth c s₁ B hml hadm hout hv
  obtain ⟨⟨rfl, hP, hK, hN⟩, hZ⟩ := hv
  have hts := atoms_spec (ws := (Cond.code y_TB_take c_TB_take 1 none) :: ET) B.pre
  have htx : ∀ w ∈ XT, w.before _ s = true := fun w h => hts w (List.mem_cons_of_mem _ (XT_ET w h))
  have htg : ∀ w ∈ GT, w.before _ s = true := fun w h => hts w (List.mem_cons_of_mem _ (GT_ET w h))
  have hx := B.exec
  have hb := B.bytes
  have hown := findClass_of_methodNamed B.named
  have hlocks := B.notSynchronized
  have hl := lv_entry [.ref a0] (n := 1) (Nat.le_of_ble_eq_true rfl)
  rw [lg_entry_eq]
  generalize (lg_sl [.ref a0] ++ List.replicate (1 - (lg_sl [.ref a0]).length) Slot.unset).toArray = ls at hl ⊢
  have hl : lv_has ls 1 [(0, .ref a0)] := hl
  refine lv_aload_n hx hb d_TB_take_0 rfl (lv_at hl 0 rfl) ?_
  refine va_get (ci := 0) (v := .ref a0_stream) hx hb htg in_TB hown hK hP 0 rfl rfl 5 (by decide) (htg _ m_196) (fun _ h9 => h9) rfl d_TB_take_1 ?_
  have hPc : va_P G vwCl [(a0_stream, .inr (10, [.ref a0_stream_tokens, .int v_o_stream_isThere, .int v_o_stream_isEnded, .int v_o_stream_mode, .ref a0_stream_kept, .int v_o_stream_keptCount, .int v_o_stream_came, .ref a0_stream_pending, .int v_o_stream_pendingCount, .int v_o_stream_looked, .int v_o_stream_state, .int v_o_stream_matched, .int v_o_stream_matchedRule]))] _ := hP.sub [1] rfl
  refine va_csr (va_Run.run (va_runV (As := []) (rest := []) ⟨hx, hb, hml, hown, htg⟩ (k_Stream_tokens l G K a0_stream a0_stream_tokens a0_stream_kept a0_stream_pending v_o_stream_isThere v_o_stream_isEnded v_o_stream_mode v_o_stream_keptCount v_o_stream_came v_o_stream_pendingCount v_o_stream_looked v_o_stream_state v_o_stream_matched v_o_stream_matchedRule True trivial) (cwV 0 htg (gGoodV m_571 m_572 m_573 m_11 m_574) rfl rfl rfl (by decide +kernel) ⟨(Nat.le_of_ble_eq_true rfl), (Nat.le_of_ble_eq_true rfl)⟩) (gS_preV (ci := 10) (q0 := 0) hK hN hPc rfl rfl) rfl rfl hl.1 rfl (lv_room (Nat.le_of_ble_eq_true rfl)) d_TB_take_4 ⟨(Nat.le_of_ble_eq_true rfl), (Nat.le_of_ble_eq_true rfl)⟩)) (fun kz hz => ?_)
  obtain ⟨hz, -⟩ := hz
  rw [hz]
  have hPc : va_P G vwCl [(a0_stream_tokens, .inr (11, [.ref a0_stream_tokens_facts, .int v_o_stream_tokens_oldest, .int v_o_stream_tokens_size]))] _ := hP.sub [2] rfl
  refine vp_callSi (va_Run.run (va_runV (As := []) (rest := []) ⟨hx, hb, hml, hown, htg⟩ (k_TokenQueue_size l G K a0_stream_tokens a0_stream_tokens_facts v_o_stream_tokens_oldest v_o_stream_tokens_size (fun r => r = v_o_stream_tokens_size) rfl) (cwV 0 htg (gGoodV m_575 m_515 m_516 m_12 m_517) rfl rfl rfl (by decide +kernel) ⟨(Nat.le_of_ble_eq_true rfl), (Nat.le_of_ble_eq_true rfl)⟩) (gS_preV (ci := 11) (q0 := 0) hK hN hPc rfl rfl) rfl rfl hl.1 rfl (lv_room (Nat.le_of_ble_eq_true rfl)) d_TB_take_7 ⟨(Nat.le_of_ble_eq_true rfl), (Nat.le_of_ble_eq_true rfl)⟩)) (fun r1 h => ?_)
  refine lv_if_ne (tgt := 21) hx hb d_TB_take_10 (by decide) (fun hc => ?_) (fun hc => ?_)
  · exact absurd (h.trans h0) hc
  · exact g_throw0 hx hb (htr e hadm) (own := "TokenBench") (cls := "java/util/NoSuchElementException") (names := ["java/lang/RuntimeException", "java/lang/Exception"]) (ik := 127) (ic := 129) hown (by decide +kernel) (by decide +kernel) (own_ok (by decide +kernel) htx hZ) (htx _ (by decide +kernel)) (htx _ (by decide +kernel)) (htx _ (by decide +kernel)) (Nat.le_refl _) (hl.1.trans hml.symm) hout hlocks d_TB_take_13 d_TB_take_16 d_TB_take_17 d_TB_take_20 (Nat.le_of_ble_eq_true rfl) (Nat.le_of_ble_eq_true rfl) (Nat.le_of_ble_eq_true rfl) (Nat.le_of_ble_eq_true rfl)
