theorem d_M_isMode_0 : decode c_M_isMode 0 = .ok (.iload_n 0, 1) := by decide +kernel
theorem d_M_isMode_1 : decode c_M_isMode 1 = .ok (.ifCond .lt 12, 3) := by decide +kernel
theorem d_M_isMode_4 : decode c_M_isMode 4 = .ok (.iload_n 0, 1) := by decide +kernel
theorem d_M_isMode_5 : decode c_M_isMode 5 = .ok (.iconst 3, 1) := by decide +kernel
theorem d_M_isMode_6 : decode c_M_isMode 6 = .ok (.if_icmp .ge 7, 3) := by decide +kernel
theorem d_M_isMode_9 : decode c_M_isMode 9 = .ok (.iconst 1, 1) := by decide +kernel
theorem d_M_isMode_10 : decode c_M_isMode 10 = .ok (.goto 4, 3) := by decide +kernel
theorem d_M_isMode_13 : decode c_M_isMode 13 = .ok (.iconst 0, 1) := by decide +kernel
theorem d_M_isMode_14 : decode c_M_isMode 14 = .ok (.ireturn, 1) := by decide +kernel
theorem d_M_isState_0 : decode c_M_isState 0 = .ok (.iload_n 1, 1) := by decide +kernel
theorem d_M_isState_1 : decode c_M_isState 1 = .ok (.invokestatic 239, 3) := by decide +kernel
theorem d_M_isState_4 : decode c_M_isState 4 = .ok (.ifCond .ne 5, 3) := by decide +kernel
theorem d_M_isState_7 : decode c_M_isState 7 = .ok (.iconst 0, 1) := by decide +kernel
theorem d_M_isState_8 : decode c_M_isState 8 = .ok (.ireturn, 1) := by decide +kernel
theorem d_M_isState_9 : decode c_M_isState 9 = .ok (.aload_n 0, 1) := by decide +kernel
theorem d_M_isState_10 : decode c_M_isState 10 = .ok (.iload_n 1, 1) := by decide +kernel
theorem d_M_isState_11 : decode c_M_isState 11 = .ok (.invokevirtual 242, 3) := by decide +kernel
theorem d_M_isState_14 : decode c_M_isState 14 = .ok (.iload_n 2, 1) := by decide +kernel
theorem d_M_isState_15 : decode c_M_isState 15 = .ok (.ifCond .lt 17, 3) := by decide +kernel
theorem d_M_isState_18 : decode c_M_isState 18 = .ok (.iload_n 2, 1) := by decide +kernel
theorem d_M_isState_19 : decode c_M_isState 19 = .ok (.aload_n 0, 1) := by decide +kernel
theorem d_M_isState_20 : decode c_M_isState 20 = .ok (.getfield 86, 3) := by decide +kernel
theorem d_M_isState_23 : decode c_M_isState 23 = .ok (.iload_n 1, 1) := by decide +kernel
theorem d_M_isState_24 : decode c_M_isState 24 = .ok (.iaload, 1) := by decide +kernel
theorem d_M_isState_25 : decode c_M_isState 25 = .ok (.if_icmp .ge 7, 3) := by decide +kernel
theorem d_M_isState_28 : decode c_M_isState 28 = .ok (.iconst 1, 1) := by decide +kernel
theorem d_M_isState_29 : decode c_M_isState 29 = .ok (.goto 4, 3) := by decide +kernel
theorem d_M_isState_32 : decode c_M_isState 32 = .ok (.iconst 0, 1) := by decide +kernel
theorem d_M_isState_33 : decode c_M_isState 33 = .ok (.ireturn, 1) := by decide +kernel
theorem d_M_states_0 : decode c_M_states 0 = .ok (.aload_n 0, 1) := by decide +kernel
theorem d_M_states_1 : decode c_M_states 1 = .ok (.iconst 0, 1) := by decide +kernel
theorem d_M_states_2 : decode c_M_states 2 = .ok (.putfield 131, 3) := by decide +kernel
theorem d_M_states_5 : decode c_M_states 5 = .ok (.aload_n 0, 1) := by decide +kernel
theorem d_M_states_6 : decode c_M_states 6 = .ok (.iload_n 1, 1) := by decide +kernel
theorem d_M_states_7 : decode c_M_states 7 = .ok (.iconst 0, 1) := by decide +kernel
theorem d_M_states_8 : decode c_M_states 8 = .ok (.invokevirtual 245, 3) := by decide +kernel
theorem d_M_states_11 : decode c_M_states 11 = .ok (.ifCond .eq 12, 3) := by decide +kernel
theorem d_M_states_14 : decode c_M_states 14 = .ok (.aload_n 0, 1) := by decide +kernel
theorem d_M_states_15 : decode c_M_states 15 = .ok (.getfield 86, 3) := by decide +kernel
theorem d_M_states_18 : decode c_M_states 18 = .ok (.iload_n 1, 1) := by decide +kernel
theorem d_M_states_19 : decode c_M_states 19 = .ok (.iaload, 1) := by decide +kernel
theorem d_M_states_20 : decode c_M_states 20 = .ok (.goto 4, 3) := by decide +kernel
theorem d_M_states_23 : decode c_M_states 23 = .ok (.iconst (-1), 1) := by decide +kernel
theorem d_M_states_24 : decode c_M_states 24 = .ok (.ireturn, 1) := by decide +kernel
theorem d_M_next_0 : decode c_M_next 0 = .ok (.aload_n 0, 1) := by decide +kernel
theorem d_M_next_1 : decode c_M_next 1 = .ok (.iconst 0, 1) := by decide +kernel
theorem d_M_next_2 : decode c_M_next 2 = .ok (.putfield 131, 3) := by decide +kernel
theorem d_M_next_5 : decode c_M_next 5 = .ok (.aload_n 0, 1) := by decide +kernel
theorem d_M_next_6 : decode c_M_next 6 = .ok (.iload_n 1, 1) := by decide +kernel
theorem d_M_next_7 : decode c_M_next 7 = .ok (.iload_n 2, 1) := by decide +kernel
theorem d_M_next_8 : decode c_M_next 8 = .ok (.invokevirtual 245, 3) := by decide +kernel
theorem d_M_next_11 : decode c_M_next 11 = .ok (.ifCond .eq 13, 3) := by decide +kernel
theorem d_M_next_14 : decode c_M_next 14 = .ok (.iload_n 3, 1) := by decide +kernel
theorem d_M_next_15 : decode c_M_next 15 = .ok (.ifCond .lt 9, 3) := by decide +kernel
theorem d_M_next_18 : decode c_M_next 18 = .ok (.iload_n 3, 1) := by decide +kernel
theorem d_M_next_19 : decode c_M_next 19 = .ok (.bipush 6, 2) := by decide +kernel
theorem d_M_next_21 : decode c_M_next 21 = .ok (.if_icmp .lt 5, 3) := by decide +kernel
theorem d_M_next_24 : decode c_M_next 24 = .ok (.iconst (-1), 1) := by decide +kernel
theorem d_M_next_25 : decode c_M_next 25 = .ok (.ireturn, 1) := by decide +kernel
theorem d_M_next_26 : decode c_M_next 26 = .ok (.aload_n 0, 1) := by decide +kernel
theorem d_M_next_27 : decode c_M_next 27 = .ok (.iload_n 1, 1) := by decide +kernel
theorem d_M_next_28 : decode c_M_next 28 = .ok (.aload_n 0, 1) := by decide +kernel
theorem d_M_next_29 : decode c_M_next 29 = .ok (.iload_n 1, 1) := by decide +kernel
theorem d_M_next_30 : decode c_M_next 30 = .ok (.aload_n 0, 1) := by decide +kernel
theorem d_M_next_31 : decode c_M_next 31 = .ok (.getfield 89, 3) := by decide +kernel
theorem d_M_next_34 : decode c_M_next 34 = .ok (.sipush 514, 3) := by decide +kernel
theorem d_M_next_37 : decode c_M_next 37 = .ok (.iload_n 1, 1) := by decide +kernel
theorem d_M_next_38 : decode c_M_next 38 = .ok (.imul, 1) := by decide +kernel
theorem d_M_next_39 : decode c_M_next 39 = .ok (.iload_n 2, 1) := by decide +kernel
theorem d_M_next_40 : decode c_M_next 40 = .ok (.iadd, 1) := by decide +kernel
theorem d_M_next_41 : decode c_M_next 41 = .ok (.iaload, 1) := by decide +kernel
theorem d_M_next_42 : decode c_M_next 42 = .ok (.iload_n 3, 1) := by decide +kernel
theorem d_M_next_43 : decode c_M_next 43 = .ok (.invokevirtual 232, 3) := by decide +kernel
theorem d_M_next_46 : decode c_M_next 46 = .ok (.invokevirtual 229, 3) := by decide +kernel
theorem d_M_next_49 : decode c_M_next 49 = .ok (.ireturn, 1) := by decide +kernel
theorem d_M_winner_0 : decode c_M_winner 0 = .ok (.aload_n 0, 1) := by decide +kernel
theorem d_M_winner_1 : decode c_M_winner 1 = .ok (.iconst 0, 1) := by decide +kernel
theorem d_M_winner_2 : decode c_M_winner 2 = .ok (.putfield 131, 3) := by decide +kernel
theorem d_M_winner_5 : decode c_M_winner 5 = .ok (.aload_n 0, 1) := by decide +kernel
theorem d_M_winner_6 : decode c_M_winner 6 = .ok (.iload_n 1, 1) := by decide +kernel
theorem d_M_winner_7 : decode c_M_winner 7 = .ok (.iload_n 2, 1) := by decide +kernel
theorem d_M_winner_8 : decode c_M_winner 8 = .ok (.invokevirtual 245, 3) := by decide +kernel
theorem d_M_winner_11 : decode c_M_winner 11 = .ok (.ifCond .eq 23, 3) := by decide +kernel
theorem d_M_winner_14 : decode c_M_winner 14 = .ok (.aload_n 0, 1) := by decide +kernel
theorem d_M_winner_15 : decode c_M_winner 15 = .ok (.iload_n 1, 1) := by decide +kernel
theorem d_M_winner_16 : decode c_M_winner 16 = .ok (.aload_n 0, 1) := by decide +kernel
theorem d_M_winner_17 : decode c_M_winner 17 = .ok (.getfield 89, 3) := by decide +kernel
theorem d_M_winner_20 : decode c_M_winner 20 = .ok (.sipush 514, 3) := by decide +kernel
theorem d_M_winner_23 : decode c_M_winner 23 = .ok (.iload_n 1, 1) := by decide +kernel
theorem d_M_winner_24 : decode c_M_winner 24 = .ok (.imul, 1) := by decide +kernel
theorem d_M_winner_25 : decode c_M_winner 25 = .ok (.iload_n 2, 1) := by decide +kernel
theorem d_M_winner_26 : decode c_M_winner 26 = .ok (.iadd, 1) := by decide +kernel
theorem d_M_winner_27 : decode c_M_winner 27 = .ok (.iaload, 1) := by decide +kernel
theorem d_M_winner_28 : decode c_M_winner 28 = .ok (.invokevirtual 219, 3) := by decide +kernel
theorem d_M_winner_31 : decode c_M_winner 31 = .ok (.goto 4, 3) := by decide +kernel
theorem d_M_winner_34 : decode c_M_winner 34 = .ok (.iconst (-1), 1) := by decide +kernel
theorem d_M_winner_35 : decode c_M_winner 35 = .ok (.ireturn, 1) := by decide +kernel
theorem d_M_never_0 : decode c_M_never 0 = .ok (.aload_n 0, 1) := by decide +kernel
theorem d_M_never_1 : decode c_M_never 1 = .ok (.iconst 0, 1) := by decide +kernel
theorem d_M_never_2 : decode c_M_never 2 = .ok (.putfield 131, 3) := by decide +kernel
theorem d_M_never_5 : decode c_M_never 5 = .ok (.iload_n 1, 1) := by decide +kernel
theorem d_M_never_6 : decode c_M_never 6 = .ok (.ifCond .lt 11, 3) := by decide +kernel
theorem d_M_never_9 : decode c_M_never 9 = .ok (.iload_n 1, 1) := by decide +kernel
theorem d_M_never_10 : decode c_M_never 10 = .ok (.aload_n 0, 1) := by decide +kernel
theorem d_M_never_11 : decode c_M_never 11 = .ok (.getfield 198, 3) := by decide +kernel
theorem d_M_never_14 : decode c_M_never 14 = .ok (.if_icmp .lt 5, 3) := by decide +kernel
theorem d_M_never_17 : decode c_M_never 17 = .ok (.iconst 0, 1) := by decide +kernel
theorem d_M_never_18 : decode c_M_never 18 = .ok (.ireturn, 1) := by decide +kernel
theorem d_M_never_19 : decode c_M_never 19 = .ok (.aload_n 0, 1) := by decide +kernel
theorem d_M_never_20 : decode c_M_never 20 = .ok (.getfield 13, 3) := by decide +kernel
theorem d_M_never_23 : decode c_M_never 23 = .ok (.iload_n 1, 1) := by decide +kernel
theorem d_M_never_24 : decode c_M_never 24 = .ok (.iaload, 1) := by decide +kernel
theorem d_M_never_25 : decode c_M_never 25 = .ok (.istore_n 2, 1) := by decide +kernel
theorem d_M_never_26 : decode c_M_never 26 = .ok (.aload_n 0, 1) := by decide +kernel
theorem d_M_never_27 : decode c_M_never 27 = .ok (.iload_n 2, 1) := by decide +kernel
theorem d_M_never_28 : decode c_M_never 28 = .ok (.invokevirtual 242, 3) := by decide +kernel
theorem d_M_never_31 : decode c_M_never 31 = .ok (.iconst 0, 1) := by decide +kernel
theorem d_M_never_32 : decode c_M_never 32 = .ok (.istore_n 3, 1) := by decide +kernel
theorem d_M_never_33 : decode c_M_never 33 = .ok (.iload_n 3, 1) := by decide +kernel
theorem d_M_never_34 : decode c_M_never 34 = .ok (.aload_n 0, 1) := by decide +kernel
theorem d_M_never_35 : decode c_M_never 35 = .ok (.getfield 74, 3) := by decide +kernel
theorem d_M_never_38 : decode c_M_never 38 = .ok (.iload_n 2, 1) := by decide +kernel
theorem d_M_never_39 : decode c_M_never 39 = .ok (.iaload, 1) := by decide +kernel
theorem d_M_never_40 : decode c_M_never 40 = .ok (.if_icmp .ge 21, 3) := by decide +kernel
theorem d_M_never_43 : decode c_M_never 43 = .ok (.aload_n 0, 1) := by decide +kernel
theorem d_M_never_44 : decode c_M_never 44 = .ok (.iload_n 2, 1) := by decide +kernel
theorem d_M_never_45 : decode c_M_never 45 = .ok (.iload_n 3, 1) := by decide +kernel
theorem d_M_never_46 : decode c_M_never 46 = .ok (.invokevirtual 219, 3) := by decide +kernel
theorem d_M_never_49 : decode c_M_never 49 = .ok (.iload_n 1, 1) := by decide +kernel
theorem d_M_never_50 : decode c_M_never 50 = .ok (.if_icmp .ne 5, 3) := by decide +kernel
theorem d_M_never_53 : decode c_M_never 53 = .ok (.iconst 0, 1) := by decide +kernel
theorem d_M_never_54 : decode c_M_never 54 = .ok (.ireturn, 1) := by decide +kernel
theorem d_M_never_55 : decode c_M_never 55 = .ok (.iinc 3 1, 3) := by decide +kernel
theorem d_M_never_58 : decode c_M_never 58 = .ok (.goto (-25), 3) := by decide +kernel
theorem d_M_never_61 : decode c_M_never 61 = .ok (.iconst 1, 1) := by decide +kernel
theorem d_M_never_62 : decode c_M_never 62 = .ok (.ireturn, 1) := by decide +kernel
def p_M_isMode (x0 : Int32) (post : Int32 → Prop) : Prop := ((x0 < 0 → (post 0)) ∧ (¬ x0 < 0 → ((3 ≤ x0 → (post 0)) ∧ (¬ 3 ≤ x0 → (post 1)))))
set_option maxHeartbeats 4000000 in
set_option maxRecDepth 100000 in
theorem k_M_isMode (l : Launch) (G : va_G) (K : Nat → ClassId)  (x0 : Int32) (post : Int32 → Prop) (h : p_M_isMode x0 post) : MSi l y_M_isMode (.code y_M_isMode c_M_isMode 1 (some .boolean)) { frames := 0, cells := 0, slots := 0, locals := 0 } G K [] [.int x0] post := by
  refine g_metSi (cc := c_M_isMode) (maxL := 1) (ret := some .boolean) (rt := .boolean) (by decide) rfl rfl (Nat.le_of_ble_eq_true rfl) ?_
  intro p e s m below meth c Q hx hb hml hown htg hK hN hP hret ls hl
  have hl : lv_has ls 1 [(0, .int x0)] := hl
  refine lv_iload_n hx hb d_M_isMode_0 rfl (lv_at hl 0 rfl) ?_
  refine lv_if_lt (tgt := 13) hx hb d_M_isMode_1 (by decide) (fun hc => ?_) (fun hc => ?_)
  · replace h := h.1 hc
    refine lv_iconst (v := 0) hx hb d_M_isMode_13 (by decide) ?_
    exact hret _ _ _ h (by decide +kernel) d_M_isMode_14
  · replace h := h.2 hc
    refine lv_iload_n hx hb d_M_isMode_4 rfl (lv_at hl 0 rfl) ?_
    refine lv_iconst (v := 3) hx hb d_M_isMode_5 (by decide) ?_
    refine lv_icmp_ge (tgt := 13) hx hb d_M_isMode_6 (by decide) (fun hc => ?_) (fun hc => ?_)
    · replace h := h.1 hc
      refine lv_iconst (v := 0) hx hb d_M_isMode_13 (by decide) ?_
      exact hret _ _ _ h (by decide +kernel) d_M_isMode_14
    · replace h := h.2 hc
      refine lv_iconst (v := 1) hx hb d_M_isMode_9 (by decide) ?_
      refine lv_goto (tgt := 14) hx hb d_M_isMode_10 (by decide) ?_
      exact hret _ _ _ h (by decide +kernel) d_M_isMode_14
def p_M_isState (v_o_rules : Int32) (f_o_made : (Nat → Int32)) (f_o_nodes : (Nat → Int32)) (f_o_modeOf : (Nat → Int32)) (f_o_firstOf : (Nat → Int32)) (f_o_many : (Nat → Int32)) (f_o_set : (Nat → Int32)) (f_o_behind : (Nat → Int32)) (f_o_letters : (Nat → Int32)) (f_o_step : (Nat → Int32)) (f_o_lastOf : (Nat → Int32)) (f_o_group : (Nat → Int32)) (f_o_sample : (Nat → Int32)) (f_o_fresh : (Nat → Int32)) (f_o_groups : (Nat → Int32)) (x1 : Int32) (x2 : Int32) (post : Int32 → (Nat → Int32) → (Nat → Int32) → (Nat → Int32) → (Nat → Int32) → (Nat → Int32) → (Nat → Int32) → (Nat → Int32) → (Nat → Int32) → Prop) : Prop := (p_M_isMode x1 (fun r1 => ((¬ r1 = 0 → (p_M_make v_o_rules f_o_made f_o_nodes f_o_modeOf f_o_firstOf f_o_many f_o_set f_o_behind f_o_letters f_o_step f_o_lastOf f_o_group f_o_sample f_o_fresh f_o_groups x1 (fun u2 u3 u4 u5 u6 u7 u8 u9 => ((x2 < 0 → (post 0 u2 u3 u4 u5 u6 u7 u8 u9)) ∧ (¬ x2 < 0 → (vp_in x1 3 ∧ (((u9 x1.toNatClampNeg) ≤ x2 → (post 0 u2 u3 u4 u5 u6 u7 u8 u9)) ∧ (¬ (u9 x1.toNatClampNeg) ≤ x2 → (post 1 u2 u3 u4 u5 u6 u7 u8 u9))))))))) ∧ (r1 = 0 → (post 0 f_o_made f_o_nodes f_o_set f_o_step f_o_group f_o_sample f_o_fresh f_o_groups)))))
set_option maxHeartbeats 4000000 in
set_option maxRecDepth 100000 in
theorem k_M_isState (l : Launch) (G : va_G) (K : Nat → ClassId) (a0 : Nat) (ad : Nat → Nat) (sz : Nat) (v_o_code : Int32) (v_o_typed : Int32) (v_o_rules : Int32) (v_o_at : Int32) (v_o_read : Int32) (v_o_depth : Int32) (v_o_wrong : Int32) (v_o_there : Int32) (v_o_ended : Int32) (v_o_mode : Int32) (v_o_kept : Int32) (v_o_came : Int32) (v_o_pending : Int32) (v_o_looked : Int32) (v_o_tokens : Int32) (v_o_oldest : Int32) (f_o_made : (Nat → Int32)) (f_o_nodes : (Nat → Int32)) (f_o_modeOf : (Nat → Int32)) (f_o_firstOf : (Nat → Int32)) (f_o_many : (Nat → Int32)) (f_o_set : (Nat → Int32)) (f_o_behind : (Nat → Int32)) (f_o_letters : (Nat → Int32)) (f_o_step : (Nat → Int32)) (f_o_lastOf : (Nat → Int32)) (f_o_group : (Nat → Int32)) (f_o_sample : (Nat → Int32)) (f_o_fresh : (Nat → Int32)) (f_o_groups : (Nat → Int32)) (x1 : Int32) (x2 : Int32) (post : Int32 → (Nat → Int32) → (Nat → Int32) → (Nat → Int32) → (Nat → Int32) → (Nat → Int32) → (Nat → Int32) → (Nat → Int32) → (Nat → Int32) → Prop) (h : p_M_isState v_o_rules f_o_made f_o_nodes f_o_modeOf f_o_firstOf f_o_many f_o_set f_o_behind f_o_letters f_o_step f_o_lastOf f_o_group f_o_sample f_o_fresh f_o_groups x1 x2 post) : MWi l y_M_isState (.code y_M_isState c_M_isState 3 (some .boolean)) { frames := 4, cells := 0, slots := 0, locals := 99 } G K [((ad 34), .inl (K 1, 3, .inl f_o_made)), ((ad 28), .inl (K 0, 3, .inl f_o_nodes)), ((ad 29), .inl (K 0, 1542, .inl f_o_set)), ((ad 30), .inl (K 0, 9252, .inl f_o_step)), ((ad 31), .inl (K 0, 1542, .inl f_o_group)), ((ad 33), .inl (K 0, 1542, .inl f_o_sample)), ((ad 50), .inl (K 0, 514, .inl f_o_fresh)), ((ad 32), .inl (K 0, 3, .inl f_o_groups))] [(a0, .inr (12, oM v_o_code v_o_typed v_o_rules v_o_at v_o_read v_o_depth v_o_wrong v_o_there v_o_ended v_o_mode v_o_kept v_o_came v_o_pending v_o_looked v_o_tokens v_o_oldest ad)), ((ad 4), .inl (K 0, 16, .inl f_o_modeOf)), ((ad 6), .inl (K 0, 16, .inl f_o_firstOf)), ((ad 8), .inl (K 0, 3, .inl f_o_many)), ((ad 11), .inl (K 0, 27, .inl f_o_behind)), ((ad 9), .inl (K 0, 27, .inl f_o_letters)), ((ad 7), .inl (K 0, 16, .inl f_o_lastOf))] [.ref a0, .int x1, .int x2] sz (fun r (u : (Nat → Int32) × (Nat → Int32) × (Nat → Int32) × (Nat → Int32) × (Nat → Int32) × (Nat → Int32) × (Nat → Int32) × (Nat → Int32)) => post r u.1 u.2.1 u.2.2.1 u.2.2.2.1 u.2.2.2.2.1 u.2.2.2.2.2.1 u.2.2.2.2.2.2.1 u.2.2.2.2.2.2.2) (fun u => [((ad 34), .inl (K 1, 3, .inl u.1)), ((ad 28), .inl (K 0, 3, .inl u.2.1)), ((ad 29), .inl (K 0, 1542, .inl u.2.2.1)), ((ad 30), .inl (K 0, 9252, .inl u.2.2.2.1)), ((ad 31), .inl (K 0, 1542, .inl u.2.2.2.2.1)), ((ad 33), .inl (K 0, 1542, .inl u.2.2.2.2.2.1)), ((ad 50), .inl (K 0, 514, .inl u.2.2.2.2.2.2.1)), ((ad 32), .inl (K 0, 3, .inl u.2.2.2.2.2.2.2))]) 0 0 := by
  refine g_metWi (cc := c_M_isState) (maxL := 3) (ret := some .boolean) (rt := .boolean) (by decide) rfl rfl (Nat.le_of_ble_eq_true rfl) ?_
  intro p e s m below meth c A Q hx hb hml hown hname htg hK hN hP hD hA hS hR rN hret ls hl
  have hl : lv_has ls 3 [(0, .ref a0), (1, .int x1), (2, .int x2)] := hl
  refine lv_iload_n hx hb d_M_isState_0 rfl (lv_at hl 1 rfl) ?_
  have hPc : va_P G vwCl [] _ := hP.sub [] rfl
  refine vp_callSi (va_Run.run (va_runS (As := [.int x1]) (rest := []) ⟨hx, hb, hml, hown, htg⟩ (k_M_isMode l G K  x1 _ h) (va_cwS 1 htg (gGoodS m_725 m_726 m_13 m_727) rfl rfl rfl (by decide +kernel) ⟨(Nat.le_of_ble_eq_true rfl), (Nat.le_of_ble_eq_true rfl)⟩) (gS_pre hK hN hPc) rfl rfl hl.1 rfl (lv_room (Nat.le_of_ble_eq_true rfl)) d_M_isState_1 ⟨(Nat.le_of_ble_eq_true rfl), (Nat.le_of_ble_eq_true rfl)⟩)) (fun r1 h => ?_)
  refine lv_if_ne (tgt := 9) hx hb d_M_isState_4 (by decide) (fun hc => ?_) (fun hc => ?_)
  · replace h := h.1 hc
    refine lv_aload_n hx hb d_M_isState_9 rfl (lv_at hl 0 rfl) ?_
    refine lv_iload_n hx hb d_M_isState_10 rfl (lv_at hl 1 rfl) ?_
    have hPc : va_P G vwCl [((ad 34), .inl (K 1, 3, .inl f_o_made)), ((ad 28), .inl (K 0, 3, .inl f_o_nodes)), ((ad 29), .inl (K 0, 1542, .inl f_o_set)), ((ad 30), .inl (K 0, 9252, .inl f_o_step)), ((ad 31), .inl (K 0, 1542, .inl f_o_group)), ((ad 33), .inl (K 0, 1542, .inl f_o_sample)), ((ad 50), .inl (K 0, 514, .inl f_o_fresh)), ((ad 32), .inl (K 0, 3, .inl f_o_groups))] _ := hP.sub [0, 1, 2, 3, 4, 5, 6, 7] rfl
    have hDc : va_D A [((ad 34), .inl (K 1, 3, .inl f_o_made)), ((ad 28), .inl (K 0, 3, .inl f_o_nodes)), ((ad 29), .inl (K 0, 1542, .inl f_o_set)), ((ad 30), .inl (K 0, 9252, .inl f_o_step)), ((ad 31), .inl (K 0, 1542, .inl f_o_group)), ((ad 33), .inl (K 0, 1542, .inl f_o_sample)), ((ad 50), .inl (K 0, 514, .inl f_o_fresh)), ((ad 32), .inl (K 0, 3, .inl f_o_groups))] := hD.sub [0, 1, 2, 3, 4, 5, 6, 7] (by decide) rfl
    have hRc : va_P G vwCl [(a0, .inr (12, oM v_o_code v_o_typed v_o_rules v_o_at v_o_read v_o_depth v_o_wrong v_o_there v_o_ended v_o_mode v_o_kept v_o_came v_o_pending v_o_looked v_o_tokens v_o_oldest ad)), ((ad 4), .inl (K 0, 16, .inl f_o_modeOf)), ((ad 6), .inl (K 0, 16, .inl f_o_firstOf)), ((ad 8), .inl (K 0, 3, .inl f_o_many)), ((ad 11), .inl (K 0, 27, .inl f_o_behind)), ((ad 9), .inl (K 0, 27, .inl f_o_letters)), ((ad 7), .inl (K 0, 16, .inl f_o_lastOf))] _ := (gR hR rN hS).sub [0, 1, 2, 3, 4, 5, 6] rfl
    have hJc : gJ [((ad 34), .inl (K 1, 3, .inl f_o_made)), ((ad 28), .inl (K 0, 3, .inl f_o_nodes)), ((ad 29), .inl (K 0, 1542, .inl f_o_set)), ((ad 30), .inl (K 0, 9252, .inl f_o_step)), ((ad 31), .inl (K 0, 1542, .inl f_o_group)), ((ad 33), .inl (K 0, 1542, .inl f_o_sample)), ((ad 50), .inl (K 0, 514, .inl f_o_fresh)), ((ad 32), .inl (K 0, 3, .inl f_o_groups))] [(a0, .inr (12, oM v_o_code v_o_typed v_o_rules v_o_at v_o_read v_o_depth v_o_wrong v_o_there v_o_ended v_o_mode v_o_kept v_o_came v_o_pending v_o_looked v_o_tokens v_o_oldest ad)), ((ad 4), .inl (K 0, 16, .inl f_o_modeOf)), ((ad 6), .inl (K 0, 16, .inl f_o_firstOf)), ((ad 8), .inl (K 0, 3, .inl f_o_many)), ((ad 11), .inl (K 0, 27, .inl f_o_behind)), ((ad 9), .inl (K 0, 27, .inl f_o_letters)), ((ad 7), .inl (K 0, 16, .inl f_o_lastOf))] := gJ_A hDc (gN_sub rN [0, 1, 2, 3, 4, 5, 6] rfl)
    refine g_callv (wr := []) (va_runV (As := [.int x1]) (rest := []) ⟨hx, hb, hml, hown, htg⟩ (k_M_make l G K a0 ad _ v_o_code v_o_typed v_o_rules v_o_at v_o_read v_o_depth v_o_wrong v_o_there v_o_ended v_o_mode v_o_kept v_o_came v_o_pending v_o_looked v_o_tokens v_o_oldest f_o_made f_o_nodes f_o_modeOf f_o_firstOf f_o_many f_o_set f_o_behind f_o_letters f_o_step f_o_lastOf f_o_group f_o_sample f_o_fresh f_o_groups x1 _ h) (cwV 1 htg (gGoodV m_728 m_729 m_891 m_13 m_730) rfl rfl rfl (by decide +kernel) ⟨(Nat.le_of_ble_eq_true rfl), (Nat.le_of_ble_eq_true rfl)⟩) (gW_preV (ci := 12) (q0 := 0) hK hN hPc hDc hRc hJc hRc rfl rfl) rfl rfl hl.1 rfl (lv_room (Nat.le_of_ble_eq_true rfl)) d_M_isState_11 ⟨(Nat.le_of_ble_eq_true rfl), (Nat.le_of_ble_eq_true rfl)⟩) hP hD hS hA [0, 1, 2, 3, 4, 5, 6, 7] [] rfl rfl (by decide) (by decide) (fun u H locs h hP hD hS => ?_)
    obtain ⟨u2, u3, u4, u5, u6, u7, u8, u9⟩ := u
    try dsimp only at h
    have hP : va_P G vwCl [((ad 34), .inl (K 1, 3, .inl u2)), ((ad 28), .inl (K 0, 3, .inl u3)), ((ad 29), .inl (K 0, 1542, .inl u4)), ((ad 30), .inl (K 0, 9252, .inl u5)), ((ad 31), .inl (K 0, 1542, .inl u6)), ((ad 33), .inl (K 0, 1542, .inl u7)), ((ad 50), .inl (K 0, 514, .inl u8)), ((ad 32), .inl (K 0, 3, .inl u9))] H := hP
    have hD : va_D A [((ad 34), .inl (K 1, 3, .inl u2)), ((ad 28), .inl (K 0, 3, .inl u3)), ((ad 29), .inl (K 0, 1542, .inl u4)), ((ad 30), .inl (K 0, 9252, .inl u5)), ((ad 31), .inl (K 0, 1542, .inl u6)), ((ad 33), .inl (K 0, 1542, .inl u7)), ((ad 50), .inl (K 0, 514, .inl u8)), ((ad 32), .inl (K 0, 3, .inl u9))] := hD
    refine lv_iload_n hx hb d_M_isState_14 rfl (lv_at hl 2 rfl) ?_
    refine lv_if_lt (tgt := 32) hx hb d_M_isState_15 (by decide) (fun hc => ?_) (fun hc => ?_)
    · replace h := h.1 hc
      refine lv_iconst (v := 0) hx hb d_M_isState_32 (by decide) ?_
      exact hret _ (u2, u3, u4, u5, u6, u7, u8, u9) _ _ _ _ h (by decide +kernel) (hP.sub [0, 1, 2, 3, 4, 5, 6, 7] rfl) (hD.sub [0, 1, 2, 3, 4, 5, 6, 7] (by decide) rfl) hS d_M_isState_33
    · replace h := h.2 hc
      refine lv_iload_n hx hb d_M_isState_18 rfl (lv_at hl 2 rfl) ?_
      refine lv_aload_n hx hb d_M_isState_19 rfl (lv_at hl 0 rfl) ?_
      refine va_get (ci := 12) (v := .ref (ad 32)) hx hb htg in_M hown hK (gR hR rN hS) 0 rfl rfl 32 (by decide) (htg _ m_642) (fun _ h9 => h9) rfl d_M_isState_20 ?_
      refine lv_iload_n hx hb d_M_isState_23 rfl (lv_at hl 1 rfl) ?_
      obtain ⟨hin, h⟩ := h
      refine va_iald hx hb hK hP 7 0 rfl rfl hin d_M_isState_24 ?_
      refine lv_icmp_ge (tgt := 32) hx hb d_M_isState_25 (by decide) (fun hc => ?_) (fun hc => ?_)
      · replace h := h.1 hc
        refine lv_iconst (v := 0) hx hb d_M_isState_32 (by decide) ?_
        exact hret _ (u2, u3, u4, u5, u6, u7, u8, u9) _ _ _ _ h (by decide +kernel) (hP.sub [0, 1, 2, 3, 4, 5, 6, 7] rfl) (hD.sub [0, 1, 2, 3, 4, 5, 6, 7] (by decide) rfl) hS d_M_isState_33
      · replace h := h.2 hc
        refine lv_iconst (v := 1) hx hb d_M_isState_28 (by decide) ?_
        refine lv_goto (tgt := 33) hx hb d_M_isState_29 (by decide) ?_
        exact hret _ (u2, u3, u4, u5, u6, u7, u8, u9) _ _ _ _ h (by decide +kernel) (hP.sub [0, 1, 2, 3, 4, 5, 6, 7] rfl) (hD.sub [0, 1, 2, 3, 4, 5, 6, 7] (by decide) rfl) hS d_M_isState_33
  · replace h := h.2 hc
    refine lv_iconst (v := 0) hx hb d_M_isState_7 (by decide) ?_
    exact hret _ (f_o_made, f_o_nodes, f_o_set, f_o_step, f_o_group, f_o_sample, f_o_fresh, f_o_groups) _ _ _ _ h (by decide +kernel) (hP.sub [0, 1, 2, 3, 4, 5, 6, 7] rfl) (hD.sub [0, 1, 2, 3, 4, 5, 6, 7] (by decide) rfl) hS d_M_isState_8
def p_M_states (v_o_rules : Int32) (f_o_made : (Nat → Int32)) (f_o_nodes : (Nat → Int32)) (f_o_modeOf : (Nat → Int32)) (f_o_firstOf : (Nat → Int32)) (f_o_many : (Nat → Int32)) (f_o_set : (Nat → Int32)) (f_o_behind : (Nat → Int32)) (f_o_letters : (Nat → Int32)) (f_o_step : (Nat → Int32)) (f_o_lastOf : (Nat → Int32)) (f_o_group : (Nat → Int32)) (f_o_sample : (Nat → Int32)) (f_o_fresh : (Nat → Int32)) (f_o_groups : (Nat → Int32)) (x1 : Int32) (post : Int32 → Int32 → (Nat → Int32) → (Nat → Int32) → (Nat → Int32) → (Nat → Int32) → (Nat → Int32) → (Nat → Int32) → (Nat → Int32) → (Nat → Int32) → Prop) : Prop := (p_M_isState v_o_rules f_o_made f_o_nodes f_o_modeOf f_o_firstOf f_o_many f_o_set f_o_behind f_o_letters f_o_step f_o_lastOf f_o_group f_o_sample f_o_fresh f_o_groups x1 0 (fun r9 u1 u2 u3 u4 u5 u6 u7 u8 => ((r9 = 0 → (post (-1) 0 u1 u2 u3 u4 u5 u6 u7 u8)) ∧ (¬ r9 = 0 → (vp_in x1 3 ∧ (post (u8 x1.toNatClampNeg) 0 u1 u2 u3 u4 u5 u6 u7 u8))))))
set_option maxHeartbeats 4000000 in
set_option maxRecDepth 100000 in
theorem k_M_states (l : Launch) (G : va_G) (K : Nat → ClassId) (a0 : Nat) (ad : Nat → Nat) (sz : Nat) (v_o_code : Int32) (v_o_typed : Int32) (v_o_rules : Int32) (v_o_at : Int32) (v_o_read : Int32) (v_o_depth : Int32) (v_o_wrong : Int32) (v_o_there : Int32) (v_o_ended : Int32) (v_o_mode : Int32) (v_o_kept : Int32) (v_o_came : Int32) (v_o_pending : Int32) (v_o_looked : Int32) (v_o_tokens : Int32) (v_o_oldest : Int32) (f_o_made : (Nat → Int32)) (f_o_nodes : (Nat → Int32)) (f_o_modeOf : (Nat → Int32)) (f_o_firstOf : (Nat → Int32)) (f_o_many : (Nat → Int32)) (f_o_set : (Nat → Int32)) (f_o_behind : (Nat → Int32)) (f_o_letters : (Nat → Int32)) (f_o_step : (Nat → Int32)) (f_o_lastOf : (Nat → Int32)) (f_o_group : (Nat → Int32)) (f_o_sample : (Nat → Int32)) (f_o_fresh : (Nat → Int32)) (f_o_groups : (Nat → Int32)) (x1 : Int32) (post : Int32 → Int32 → (Nat → Int32) → (Nat → Int32) → (Nat → Int32) → (Nat → Int32) → (Nat → Int32) → (Nat → Int32) → (Nat → Int32) → (Nat → Int32) → Prop) (h : p_M_states v_o_rules f_o_made f_o_nodes f_o_modeOf f_o_firstOf f_o_many f_o_set f_o_behind f_o_letters f_o_step f_o_lastOf f_o_group f_o_sample f_o_fresh f_o_groups x1 post) : MWi l y_M_states (.code y_M_states c_M_states 2 (some .int)) { frames := 5, cells := 0, slots := 0, locals := 121 } G K [(a0, .inr (12, oM v_o_code v_o_typed v_o_rules v_o_at v_o_read v_o_depth v_o_wrong v_o_there v_o_ended v_o_mode v_o_kept v_o_came v_o_pending v_o_looked v_o_tokens v_o_oldest ad)), ((ad 34), .inl (K 1, 3, .inl f_o_made)), ((ad 28), .inl (K 0, 3, .inl f_o_nodes)), ((ad 29), .inl (K 0, 1542, .inl f_o_set)), ((ad 30), .inl (K 0, 9252, .inl f_o_step)), ((ad 31), .inl (K 0, 1542, .inl f_o_group)), ((ad 33), .inl (K 0, 1542, .inl f_o_sample)), ((ad 50), .inl (K 0, 514, .inl f_o_fresh)), ((ad 32), .inl (K 0, 3, .inl f_o_groups))] [((ad 4), .inl (K 0, 16, .inl f_o_modeOf)), ((ad 6), .inl (K 0, 16, .inl f_o_firstOf)), ((ad 8), .inl (K 0, 3, .inl f_o_many)), ((ad 11), .inl (K 0, 27, .inl f_o_behind)), ((ad 9), .inl (K 0, 27, .inl f_o_letters)), ((ad 7), .inl (K 0, 16, .inl f_o_lastOf))] [.ref a0, .int x1] sz (fun r (u : Int32 × (Nat → Int32) × (Nat → Int32) × (Nat → Int32) × (Nat → Int32) × (Nat → Int32) × (Nat → Int32) × (Nat → Int32) × (Nat → Int32)) => post r u.1 u.2.1 u.2.2.1 u.2.2.2.1 u.2.2.2.2.1 u.2.2.2.2.2.1 u.2.2.2.2.2.2.1 u.2.2.2.2.2.2.2.1 u.2.2.2.2.2.2.2.2) (fun u => [(a0, .inr (12, oM u.1 v_o_typed v_o_rules v_o_at v_o_read v_o_depth v_o_wrong v_o_there v_o_ended v_o_mode v_o_kept v_o_came v_o_pending v_o_looked v_o_tokens v_o_oldest ad)), ((ad 34), .inl (K 1, 3, .inl u.2.1)), ((ad 28), .inl (K 0, 3, .inl u.2.2.1)), ((ad 29), .inl (K 0, 1542, .inl u.2.2.2.1)), ((ad 30), .inl (K 0, 9252, .inl u.2.2.2.2.1)), ((ad 31), .inl (K 0, 1542, .inl u.2.2.2.2.2.1)), ((ad 33), .inl (K 0, 1542, .inl u.2.2.2.2.2.2.1)), ((ad 50), .inl (K 0, 514, .inl u.2.2.2.2.2.2.2.1)), ((ad 32), .inl (K 0, 3, .inl u.2.2.2.2.2.2.2.2))]) 0 0 := by
  refine g_metWi (cc := c_M_states) (maxL := 2) (ret := some .int) (rt := .int) (by decide) rfl rfl (Nat.le_of_ble_eq_true rfl) ?_
  intro p e s m below meth c A Q hx hb hml hown hname htg hK hN hP hD hA hS hR rN hret ls hl
  have hl : lv_has ls 2 [(0, .ref a0), (1, .int x1)] := hl
  refine lv_aload_n hx hb d_M_states_0 rfl (lv_at hl 0 rfl) ?_
  refine lv_iconst (v := 0) hx hb d_M_states_1 (by decide) ?_
  refine va_put (ci := 12) (v := .int 0) (ty := .int) hx hb htg in_M t_M tok_M nm_M hown hK hP hD hS 0 rfl rfl 0 (by decide) (htg _ m_610) (fun _ h9 => h9) rfl (by decide +kernel) rfl rfl (Nat.le_of_ble_eq_true rfl) d_M_states_2 (fun H locs hP hD hS => ?_)
  have hP : va_P G vwCl [(a0, .inr (12, oM 0 v_o_typed v_o_rules v_o_at v_o_read v_o_depth v_o_wrong v_o_there v_o_ended v_o_mode v_o_kept v_o_came v_o_pending v_o_looked v_o_tokens v_o_oldest ad)), ((ad 34), .inl (K 1, 3, .inl f_o_made)), ((ad 28), .inl (K 0, 3, .inl f_o_nodes)), ((ad 29), .inl (K 0, 1542, .inl f_o_set)), ((ad 30), .inl (K 0, 9252, .inl f_o_step)), ((ad 31), .inl (K 0, 1542, .inl f_o_group)), ((ad 33), .inl (K 0, 1542, .inl f_o_sample)), ((ad 50), .inl (K 0, 514, .inl f_o_fresh)), ((ad 32), .inl (K 0, 3, .inl f_o_groups))] H := hP
  have hD : va_D A [(a0, .inr (12, oM 0 v_o_typed v_o_rules v_o_at v_o_read v_o_depth v_o_wrong v_o_there v_o_ended v_o_mode v_o_kept v_o_came v_o_pending v_o_looked v_o_tokens v_o_oldest ad)), ((ad 34), .inl (K 1, 3, .inl f_o_made)), ((ad 28), .inl (K 0, 3, .inl f_o_nodes)), ((ad 29), .inl (K 0, 1542, .inl f_o_set)), ((ad 30), .inl (K 0, 9252, .inl f_o_step)), ((ad 31), .inl (K 0, 1542, .inl f_o_group)), ((ad 33), .inl (K 0, 1542, .inl f_o_sample)), ((ad 50), .inl (K 0, 514, .inl f_o_fresh)), ((ad 32), .inl (K 0, 3, .inl f_o_groups))] := hD
  refine lv_aload_n hx hb d_M_states_5 rfl (lv_at hl 0 rfl) ?_
  refine lv_iload_n hx hb d_M_states_6 rfl (lv_at hl 1 rfl) ?_
  refine lv_iconst (v := 0) hx hb d_M_states_7 (by decide) ?_
  have hPc : va_P G vwCl [((ad 34), .inl (K 1, 3, .inl f_o_made)), ((ad 28), .inl (K 0, 3, .inl f_o_nodes)), ((ad 29), .inl (K 0, 1542, .inl f_o_set)), ((ad 30), .inl (K 0, 9252, .inl f_o_step)), ((ad 31), .inl (K 0, 1542, .inl f_o_group)), ((ad 33), .inl (K 0, 1542, .inl f_o_sample)), ((ad 50), .inl (K 0, 514, .inl f_o_fresh)), ((ad 32), .inl (K 0, 3, .inl f_o_groups))] _ := hP.sub [1, 2, 3, 4, 5, 6, 7, 8] rfl
  have hDc : va_D A [((ad 34), .inl (K 1, 3, .inl f_o_made)), ((ad 28), .inl (K 0, 3, .inl f_o_nodes)), ((ad 29), .inl (K 0, 1542, .inl f_o_set)), ((ad 30), .inl (K 0, 9252, .inl f_o_step)), ((ad 31), .inl (K 0, 1542, .inl f_o_group)), ((ad 33), .inl (K 0, 1542, .inl f_o_sample)), ((ad 50), .inl (K 0, 514, .inl f_o_fresh)), ((ad 32), .inl (K 0, 3, .inl f_o_groups))] := hD.sub [1, 2, 3, 4, 5, 6, 7, 8] (by decide) rfl
  have hRc : va_P G vwCl [(a0, .inr (12, oM 0 v_o_typed v_o_rules v_o_at v_o_read v_o_depth v_o_wrong v_o_there v_o_ended v_o_mode v_o_kept v_o_came v_o_pending v_o_looked v_o_tokens v_o_oldest ad)), ((ad 4), .inl (K 0, 16, .inl f_o_modeOf)), ((ad 6), .inl (K 0, 16, .inl f_o_firstOf)), ((ad 8), .inl (K 0, 3, .inl f_o_many)), ((ad 11), .inl (K 0, 27, .inl f_o_behind)), ((ad 9), .inl (K 0, 27, .inl f_o_letters)), ((ad 7), .inl (K 0, 16, .inl f_o_lastOf))] _ := (hP.app (gR hR rN hS)).sub [0, 9, 10, 11, 12, 13, 14] rfl
  have hJc : gJ [((ad 34), .inl (K 1, 3, .inl f_o_made)), ((ad 28), .inl (K 0, 3, .inl f_o_nodes)), ((ad 29), .inl (K 0, 1542, .inl f_o_set)), ((ad 30), .inl (K 0, 9252, .inl f_o_step)), ((ad 31), .inl (K 0, 1542, .inl f_o_group)), ((ad 33), .inl (K 0, 1542, .inl f_o_sample)), ((ad 50), .inl (K 0, 514, .inl f_o_fresh)), ((ad 32), .inl (K 0, 3, .inl f_o_groups))] [(a0, .inr (12, oM 0 v_o_typed v_o_rules v_o_at v_o_read v_o_depth v_o_wrong v_o_there v_o_ended v_o_mode v_o_kept v_o_came v_o_pending v_o_looked v_o_tokens v_o_oldest ad)), ((ad 4), .inl (K 0, 16, .inl f_o_modeOf)), ((ad 6), .inl (K 0, 16, .inl f_o_firstOf)), ((ad 8), .inl (K 0, 3, .inl f_o_many)), ((ad 11), .inl (K 0, 27, .inl f_o_behind)), ((ad 9), .inl (K 0, 27, .inl f_o_letters)), ((ad 7), .inl (K 0, 16, .inl f_o_lastOf))] := gJ_sub hD rN [1, 2, 3, 4, 5, 6, 7, 8] [0, 9, 10, 11, 12, 13, 14] rfl rfl (by decide)
  refine g_calli (wr := [(a0, .inr (12, oM 0 v_o_typed v_o_rules v_o_at v_o_read v_o_depth v_o_wrong v_o_there v_o_ended v_o_mode v_o_kept v_o_came v_o_pending v_o_looked v_o_tokens v_o_oldest ad))]) (va_runV (As := [.int x1, .int 0]) (rest := []) ⟨hx, hb, hml, hown, htg⟩ (k_M_isState l G K a0 ad _ 0 v_o_typed v_o_rules v_o_at v_o_read v_o_depth v_o_wrong v_o_there v_o_ended v_o_mode v_o_kept v_o_came v_o_pending v_o_looked v_o_tokens v_o_oldest f_o_made f_o_nodes f_o_modeOf f_o_firstOf f_o_many f_o_set f_o_behind f_o_letters f_o_step f_o_lastOf f_o_group f_o_sample f_o_fresh f_o_groups x1 0 _ h) (cwV 2 htg (gGoodV m_722 m_723 m_889 m_13 m_724) rfl rfl rfl (by decide +kernel) ⟨(Nat.le_of_ble_eq_true rfl), (Nat.le_of_ble_eq_true rfl)⟩) (gW_preV (ci := 12) (q0 := 0) hK hN hPc hDc hRc hJc hRc rfl rfl) rfl rfl hl.1 rfl (lv_room (Nat.le_of_ble_eq_true rfl)) d_M_states_8 ⟨(Nat.le_of_ble_eq_true rfl), (Nat.le_of_ble_eq_true rfl)⟩) hP hD hS hA [1, 2, 3, 4, 5, 6, 7, 8] [0] rfl rfl (by decide) (by decide) (fun r9 u H locs h hP hD hS => ?_)
  obtain ⟨u1, u2, u3, u4, u5, u6, u7, u8⟩ := u
  try dsimp only at h
  have hP : va_P G vwCl [(a0, .inr (12, oM 0 v_o_typed v_o_rules v_o_at v_o_read v_o_depth v_o_wrong v_o_there v_o_ended v_o_mode v_o_kept v_o_came v_o_pending v_o_looked v_o_tokens v_o_oldest ad)), ((ad 34), .inl (K 1, 3, .inl u1)), ((ad 28), .inl (K 0, 3, .inl u2)), ((ad 29), .inl (K 0, 1542, .inl u3)), ((ad 30), .inl (K 0, 9252, .inl u4)), ((ad 31), .inl (K 0, 1542, .inl u5)), ((ad 33), .inl (K 0, 1542, .inl u6)), ((ad 50), .inl (K 0, 514, .inl u7)), ((ad 32), .inl (K 0, 3, .inl u8))] H := hP
  have hD : va_D A [(a0, .inr (12, oM 0 v_o_typed v_o_rules v_o_at v_o_read v_o_depth v_o_wrong v_o_there v_o_ended v_o_mode v_o_kept v_o_came v_o_pending v_o_looked v_o_tokens v_o_oldest ad)), ((ad 34), .inl (K 1, 3, .inl u1)), ((ad 28), .inl (K 0, 3, .inl u2)), ((ad 29), .inl (K 0, 1542, .inl u3)), ((ad 30), .inl (K 0, 9252, .inl u4)), ((ad 31), .inl (K 0, 1542, .inl u5)), ((ad 33), .inl (K 0, 1542, .inl u6)), ((ad 50), .inl (K 0, 514, .inl u7)), ((ad 32), .inl (K 0, 3, .inl u8))] := hD
  refine lv_if_eq (tgt := 23) hx hb d_M_states_11 (by decide) (fun hc => ?_) (fun hc => ?_)
  · replace h := h.1 hc
    refine lv_iconst (v := (-1)) hx hb d_M_states_23 (by decide) ?_
    exact hret _ (0, u1, u2, u3, u4, u5, u6, u7, u8) _ _ _ _ h (vp_nar_int _) (hP.sub [0, 1, 2, 3, 4, 5, 6, 7, 8] rfl) (hD.sub [0, 1, 2, 3, 4, 5, 6, 7, 8] (by decide) rfl) hS d_M_states_24
  · replace h := h.2 hc
    refine lv_aload_n hx hb d_M_states_14 rfl (lv_at hl 0 rfl) ?_
    refine va_get (ci := 12) (v := .ref (ad 32)) hx hb htg in_M hown hK hP 0 rfl rfl 32 (by decide) (htg _ m_642) (fun _ h9 => h9) rfl d_M_states_15 ?_
    refine lv_iload_n hx hb d_M_states_18 rfl (lv_at hl 1 rfl) ?_
    obtain ⟨hin, h⟩ := h
    refine va_iald hx hb hK hP 8 0 rfl rfl hin d_M_states_19 ?_
    refine lv_goto (tgt := 24) hx hb d_M_states_20 (by decide) ?_
    exact hret _ (0, u1, u2, u3, u4, u5, u6, u7, u8) _ _ _ _ h (vp_nar_int _) (hP.sub [0, 1, 2, 3, 4, 5, 6, 7, 8] rfl) (hD.sub [0, 1, 2, 3, 4, 5, 6, 7, 8] (by decide) rfl) hS d_M_states_24
def p_M_next (v_o_rules : Int32) (f_o_made : (Nat → Int32)) (f_o_nodes : (Nat → Int32)) (f_o_modeOf : (Nat → Int32)) (f_o_firstOf : (Nat → Int32)) (f_o_many : (Nat → Int32)) (f_o_set : (Nat → Int32)) (f_o_behind : (Nat → Int32)) (f_o_letters : (Nat → Int32)) (f_o_step : (Nat → Int32)) (f_o_lastOf : (Nat → Int32)) (f_o_group : (Nat → Int32)) (f_o_sample : (Nat → Int32)) (f_o_fresh : (Nat → Int32)) (f_o_groups : (Nat → Int32)) (x1 : Int32) (x2 : Int32) (x3 : Int32) (post : Int32 → Int32 → (Nat → Int32) → (Nat → Int32) → (Nat → Int32) → (Nat → Int32) → (Nat → Int32) → (Nat → Int32) → (Nat → Int32) → (Nat → Int32) → Prop) : Prop := (p_M_isState v_o_rules f_o_made f_o_nodes f_o_modeOf f_o_firstOf f_o_many f_o_set f_o_behind f_o_letters f_o_step f_o_lastOf f_o_group f_o_sample f_o_fresh f_o_groups x1 x2 (fun r9 u1 u2 u3 u4 u5 u6 u7 u8 => ((r9 = 0 → (post (-1) 0 u1 u2 u3 u4 u5 u6 u7 u8)) ∧ (¬ r9 = 0 → ((x3 < 0 → (post (-1) 0 u1 u2 u3 u4 u5 u6 u7 u8)) ∧ (¬ x3 < 0 → ((x3 < 6 → (vp_in ((514 * x1) + x2) 1542 ∧ (p_M_go u4 x1 (u6 ((514 * x1) + x2).toNatClampNeg) x3 (fun r10 => (p_M_groupAt u5 x1 r10 (fun r11 => (post r11 0 u1 u2 u3 u4 u5 u6 u7 u8))))))) ∧ (¬ x3 < 6 → (post (-1) 0 u1 u2 u3 u4 u5 u6 u7 u8)))))))))
set_option maxHeartbeats 4000000 in
set_option maxRecDepth 100000 in
theorem k_M_next (l : Launch) (G : va_G) (K : Nat → ClassId) (a0 : Nat) (ad : Nat → Nat) (sz : Nat) (v_o_code : Int32) (v_o_typed : Int32) (v_o_rules : Int32) (v_o_at : Int32) (v_o_read : Int32) (v_o_depth : Int32) (v_o_wrong : Int32) (v_o_there : Int32) (v_o_ended : Int32) (v_o_mode : Int32) (v_o_kept : Int32) (v_o_came : Int32) (v_o_pending : Int32) (v_o_looked : Int32) (v_o_tokens : Int32) (v_o_oldest : Int32) (f_o_made : (Nat → Int32)) (f_o_nodes : (Nat → Int32)) (f_o_modeOf : (Nat → Int32)) (f_o_firstOf : (Nat → Int32)) (f_o_many : (Nat → Int32)) (f_o_set : (Nat → Int32)) (f_o_behind : (Nat → Int32)) (f_o_letters : (Nat → Int32)) (f_o_step : (Nat → Int32)) (f_o_lastOf : (Nat → Int32)) (f_o_group : (Nat → Int32)) (f_o_sample : (Nat → Int32)) (f_o_fresh : (Nat → Int32)) (f_o_groups : (Nat → Int32)) (x1 : Int32) (x2 : Int32) (x3 : Int32) (post : Int32 → Int32 → (Nat → Int32) → (Nat → Int32) → (Nat → Int32) → (Nat → Int32) → (Nat → Int32) → (Nat → Int32) → (Nat → Int32) → (Nat → Int32) → Prop) (h : p_M_next v_o_rules f_o_made f_o_nodes f_o_modeOf f_o_firstOf f_o_many f_o_set f_o_behind f_o_letters f_o_step f_o_lastOf f_o_group f_o_sample f_o_fresh f_o_groups x1 x2 x3 post) : MWi l y_M_next (.code y_M_next c_M_next 4 (some .int)) { frames := 5, cells := 0, slots := 0, locals := 121 } G K [(a0, .inr (12, oM v_o_code v_o_typed v_o_rules v_o_at v_o_read v_o_depth v_o_wrong v_o_there v_o_ended v_o_mode v_o_kept v_o_came v_o_pending v_o_looked v_o_tokens v_o_oldest ad)), ((ad 34), .inl (K 1, 3, .inl f_o_made)), ((ad 28), .inl (K 0, 3, .inl f_o_nodes)), ((ad 29), .inl (K 0, 1542, .inl f_o_set)), ((ad 30), .inl (K 0, 9252, .inl f_o_step)), ((ad 31), .inl (K 0, 1542, .inl f_o_group)), ((ad 33), .inl (K 0, 1542, .inl f_o_sample)), ((ad 50), .inl (K 0, 514, .inl f_o_fresh)), ((ad 32), .inl (K 0, 3, .inl f_o_groups))] [((ad 4), .inl (K 0, 16, .inl f_o_modeOf)), ((ad 6), .inl (K 0, 16, .inl f_o_firstOf)), ((ad 8), .inl (K 0, 3, .inl f_o_many)), ((ad 11), .inl (K 0, 27, .inl f_o_behind)), ((ad 9), .inl (K 0, 27, .inl f_o_letters)), ((ad 7), .inl (K 0, 16, .inl f_o_lastOf))] [.ref a0, .int x1, .int x2, .int x3] sz (fun r (u : Int32 × (Nat → Int32) × (Nat → Int32) × (Nat → Int32) × (Nat → Int32) × (Nat → Int32) × (Nat → Int32) × (Nat → Int32) × (Nat → Int32)) => post r u.1 u.2.1 u.2.2.1 u.2.2.2.1 u.2.2.2.2.1 u.2.2.2.2.2.1 u.2.2.2.2.2.2.1 u.2.2.2.2.2.2.2.1 u.2.2.2.2.2.2.2.2) (fun u => [(a0, .inr (12, oM u.1 v_o_typed v_o_rules v_o_at v_o_read v_o_depth v_o_wrong v_o_there v_o_ended v_o_mode v_o_kept v_o_came v_o_pending v_o_looked v_o_tokens v_o_oldest ad)), ((ad 34), .inl (K 1, 3, .inl u.2.1)), ((ad 28), .inl (K 0, 3, .inl u.2.2.1)), ((ad 29), .inl (K 0, 1542, .inl u.2.2.2.1)), ((ad 30), .inl (K 0, 9252, .inl u.2.2.2.2.1)), ((ad 31), .inl (K 0, 1542, .inl u.2.2.2.2.2.1)), ((ad 33), .inl (K 0, 1542, .inl u.2.2.2.2.2.2.1)), ((ad 50), .inl (K 0, 514, .inl u.2.2.2.2.2.2.2.1)), ((ad 32), .inl (K 0, 3, .inl u.2.2.2.2.2.2.2.2))]) 0 0 := by
  refine g_metWi (cc := c_M_next) (maxL := 4) (ret := some .int) (rt := .int) (by decide) rfl rfl (Nat.le_of_ble_eq_true rfl) ?_
  intro p e s m below meth c A Q hx hb hml hown hname htg hK hN hP hD hA hS hR rN hret ls hl
  have hl : lv_has ls 4 [(0, .ref a0), (1, .int x1), (2, .int x2), (3, .int x3)] := hl
  refine lv_aload_n hx hb d_M_next_0 rfl (lv_at hl 0 rfl) ?_
  refine lv_iconst (v := 0) hx hb d_M_next_1 (by decide) ?_
  refine va_put (ci := 12) (v := .int 0) (ty := .int) hx hb htg in_M t_M tok_M nm_M hown hK hP hD hS 0 rfl rfl 0 (by decide) (htg _ m_610) (fun _ h9 => h9) rfl (by decide +kernel) rfl rfl (Nat.le_of_ble_eq_true rfl) d_M_next_2 (fun H locs hP hD hS => ?_)
  have hP : va_P G vwCl [(a0, .inr (12, oM 0 v_o_typed v_o_rules v_o_at v_o_read v_o_depth v_o_wrong v_o_there v_o_ended v_o_mode v_o_kept v_o_came v_o_pending v_o_looked v_o_tokens v_o_oldest ad)), ((ad 34), .inl (K 1, 3, .inl f_o_made)), ((ad 28), .inl (K 0, 3, .inl f_o_nodes)), ((ad 29), .inl (K 0, 1542, .inl f_o_set)), ((ad 30), .inl (K 0, 9252, .inl f_o_step)), ((ad 31), .inl (K 0, 1542, .inl f_o_group)), ((ad 33), .inl (K 0, 1542, .inl f_o_sample)), ((ad 50), .inl (K 0, 514, .inl f_o_fresh)), ((ad 32), .inl (K 0, 3, .inl f_o_groups))] H := hP
  have hD : va_D A [(a0, .inr (12, oM 0 v_o_typed v_o_rules v_o_at v_o_read v_o_depth v_o_wrong v_o_there v_o_ended v_o_mode v_o_kept v_o_came v_o_pending v_o_looked v_o_tokens v_o_oldest ad)), ((ad 34), .inl (K 1, 3, .inl f_o_made)), ((ad 28), .inl (K 0, 3, .inl f_o_nodes)), ((ad 29), .inl (K 0, 1542, .inl f_o_set)), ((ad 30), .inl (K 0, 9252, .inl f_o_step)), ((ad 31), .inl (K 0, 1542, .inl f_o_group)), ((ad 33), .inl (K 0, 1542, .inl f_o_sample)), ((ad 50), .inl (K 0, 514, .inl f_o_fresh)), ((ad 32), .inl (K 0, 3, .inl f_o_groups))] := hD
  refine lv_aload_n hx hb d_M_next_5 rfl (lv_at hl 0 rfl) ?_
  refine lv_iload_n hx hb d_M_next_6 rfl (lv_at hl 1 rfl) ?_
  refine lv_iload_n hx hb d_M_next_7 rfl (lv_at hl 2 rfl) ?_
  have hPc : va_P G vwCl [((ad 34), .inl (K 1, 3, .inl f_o_made)), ((ad 28), .inl (K 0, 3, .inl f_o_nodes)), ((ad 29), .inl (K 0, 1542, .inl f_o_set)), ((ad 30), .inl (K 0, 9252, .inl f_o_step)), ((ad 31), .inl (K 0, 1542, .inl f_o_group)), ((ad 33), .inl (K 0, 1542, .inl f_o_sample)), ((ad 50), .inl (K 0, 514, .inl f_o_fresh)), ((ad 32), .inl (K 0, 3, .inl f_o_groups))] _ := hP.sub [1, 2, 3, 4, 5, 6, 7, 8] rfl
  have hDc : va_D A [((ad 34), .inl (K 1, 3, .inl f_o_made)), ((ad 28), .inl (K 0, 3, .inl f_o_nodes)), ((ad 29), .inl (K 0, 1542, .inl f_o_set)), ((ad 30), .inl (K 0, 9252, .inl f_o_step)), ((ad 31), .inl (K 0, 1542, .inl f_o_group)), ((ad 33), .inl (K 0, 1542, .inl f_o_sample)), ((ad 50), .inl (K 0, 514, .inl f_o_fresh)), ((ad 32), .inl (K 0, 3, .inl f_o_groups))] := hD.sub [1, 2, 3, 4, 5, 6, 7, 8] (by decide) rfl
  have hRc : va_P G vwCl [(a0, .inr (12, oM 0 v_o_typed v_o_rules v_o_at v_o_read v_o_depth v_o_wrong v_o_there v_o_ended v_o_mode v_o_kept v_o_came v_o_pending v_o_looked v_o_tokens v_o_oldest ad)), ((ad 4), .inl (K 0, 16, .inl f_o_modeOf)), ((ad 6), .inl (K 0, 16, .inl f_o_firstOf)), ((ad 8), .inl (K 0, 3, .inl f_o_many)), ((ad 11), .inl (K 0, 27, .inl f_o_behind)), ((ad 9), .inl (K 0, 27, .inl f_o_letters)), ((ad 7), .inl (K 0, 16, .inl f_o_lastOf))] _ := (hP.app (gR hR rN hS)).sub [0, 9, 10, 11, 12, 13, 14] rfl
  have hJc : gJ [((ad 34), .inl (K 1, 3, .inl f_o_made)), ((ad 28), .inl (K 0, 3, .inl f_o_nodes)), ((ad 29), .inl (K 0, 1542, .inl f_o_set)), ((ad 30), .inl (K 0, 9252, .inl f_o_step)), ((ad 31), .inl (K 0, 1542, .inl f_o_group)), ((ad 33), .inl (K 0, 1542, .inl f_o_sample)), ((ad 50), .inl (K 0, 514, .inl f_o_fresh)), ((ad 32), .inl (K 0, 3, .inl f_o_groups))] [(a0, .inr (12, oM 0 v_o_typed v_o_rules v_o_at v_o_read v_o_depth v_o_wrong v_o_there v_o_ended v_o_mode v_o_kept v_o_came v_o_pending v_o_looked v_o_tokens v_o_oldest ad)), ((ad 4), .inl (K 0, 16, .inl f_o_modeOf)), ((ad 6), .inl (K 0, 16, .inl f_o_firstOf)), ((ad 8), .inl (K 0, 3, .inl f_o_many)), ((ad 11), .inl (K 0, 27, .inl f_o_behind)), ((ad 9), .inl (K 0, 27, .inl f_o_letters)), ((ad 7), .inl (K 0, 16, .inl f_o_lastOf))] := gJ_sub hD rN [1, 2, 3, 4, 5, 6, 7, 8] [0, 9, 10, 11, 12, 13, 14] rfl rfl (by decide)
  refine g_calli (wr := [(a0, .inr (12, oM 0 v_o_typed v_o_rules v_o_at v_o_read v_o_depth v_o_wrong v_o_there v_o_ended v_o_mode v_o_kept v_o_came v_o_pending v_o_looked v_o_tokens v_o_oldest ad))]) (va_runV (As := [.int x1, .int x2]) (rest := []) ⟨hx, hb, hml, hown, htg⟩ (k_M_isState l G K a0 ad _ 0 v_o_typed v_o_rules v_o_at v_o_read v_o_depth v_o_wrong v_o_there v_o_ended v_o_mode v_o_kept v_o_came v_o_pending v_o_looked v_o_tokens v_o_oldest f_o_made f_o_nodes f_o_modeOf f_o_firstOf f_o_many f_o_set f_o_behind f_o_letters f_o_step f_o_lastOf f_o_group f_o_sample f_o_fresh f_o_groups x1 x2 _ h) (cwV 2 htg (gGoodV m_722 m_723 m_889 m_13 m_724) rfl rfl rfl (by decide +kernel) ⟨(Nat.le_of_ble_eq_true rfl), (Nat.le_of_ble_eq_true rfl)⟩) (gW_preV (ci := 12) (q0 := 0) hK hN hPc hDc hRc hJc hRc rfl rfl) rfl rfl hl.1 rfl (lv_room (Nat.le_of_ble_eq_true rfl)) d_M_next_8 ⟨(Nat.le_of_ble_eq_true rfl), (Nat.le_of_ble_eq_true rfl)⟩) hP hD hS hA [1, 2, 3, 4, 5, 6, 7, 8] [0] rfl rfl (by decide) (by decide) (fun r9 u H locs h hP hD hS => ?_)
  obtain ⟨u1, u2, u3, u4, u5, u6, u7, u8⟩ := u
  try dsimp only at h
  have hP : va_P G vwCl [(a0, .inr (12, oM 0 v_o_typed v_o_rules v_o_at v_o_read v_o_depth v_o_wrong v_o_there v_o_ended v_o_mode v_o_kept v_o_came v_o_pending v_o_looked v_o_tokens v_o_oldest ad)), ((ad 34), .inl (K 1, 3, .inl u1)), ((ad 28), .inl (K 0, 3, .inl u2)), ((ad 29), .inl (K 0, 1542, .inl u3)), ((ad 30), .inl (K 0, 9252, .inl u4)), ((ad 31), .inl (K 0, 1542, .inl u5)), ((ad 33), .inl (K 0, 1542, .inl u6)), ((ad 50), .inl (K 0, 514, .inl u7)), ((ad 32), .inl (K 0, 3, .inl u8))] H := hP
  have hD : va_D A [(a0, .inr (12, oM 0 v_o_typed v_o_rules v_o_at v_o_read v_o_depth v_o_wrong v_o_there v_o_ended v_o_mode v_o_kept v_o_came v_o_pending v_o_looked v_o_tokens v_o_oldest ad)), ((ad 34), .inl (K 1, 3, .inl u1)), ((ad 28), .inl (K 0, 3, .inl u2)), ((ad 29), .inl (K 0, 1542, .inl u3)), ((ad 30), .inl (K 0, 9252, .inl u4)), ((ad 31), .inl (K 0, 1542, .inl u5)), ((ad 33), .inl (K 0, 1542, .inl u6)), ((ad 50), .inl (K 0, 514, .inl u7)), ((ad 32), .inl (K 0, 3, .inl u8))] := hD
  refine lv_if_eq (tgt := 24) hx hb d_M_next_11 (by decide) (fun hc => ?_) (fun hc => ?_)
  · replace h := h.1 hc
    refine lv_iconst (v := (-1)) hx hb d_M_next_24 (by decide) ?_
    exact hret _ (0, u1, u2, u3, u4, u5, u6, u7, u8) _ _ _ _ h (vp_nar_int _) (hP.sub [0, 1, 2, 3, 4, 5, 6, 7, 8] rfl) (hD.sub [0, 1, 2, 3, 4, 5, 6, 7, 8] (by decide) rfl) hS d_M_next_25
  · replace h := h.2 hc
    refine lv_iload_n hx hb d_M_next_14 rfl (lv_at hl 3 rfl) ?_
    refine lv_if_lt (tgt := 24) hx hb d_M_next_15 (by decide) (fun hc => ?_) (fun hc => ?_)
    · replace h := h.1 hc
      refine lv_iconst (v := (-1)) hx hb d_M_next_24 (by decide) ?_
      exact hret _ (0, u1, u2, u3, u4, u5, u6, u7, u8) _ _ _ _ h (vp_nar_int _) (hP.sub [0, 1, 2, 3, 4, 5, 6, 7, 8] rfl) (hD.sub [0, 1, 2, 3, 4, 5, 6, 7, 8] (by decide) rfl) hS d_M_next_25
    · replace h := h.2 hc
      refine lv_iload_n hx hb d_M_next_18 rfl (lv_at hl 3 rfl) ?_
      refine lv_bipush (v := 6) hx hb d_M_next_19 (by decide) ?_
      refine lv_icmp_lt (tgt := 26) hx hb d_M_next_21 (by decide) (fun hc => ?_) (fun hc => ?_)
      · replace h := h.1 hc
        refine lv_aload_n hx hb d_M_next_26 rfl (lv_at hl 0 rfl) ?_
        refine lv_iload_n hx hb d_M_next_27 rfl (lv_at hl 1 rfl) ?_
        refine lv_aload_n hx hb d_M_next_28 rfl (lv_at hl 0 rfl) ?_
        refine lv_iload_n hx hb d_M_next_29 rfl (lv_at hl 1 rfl) ?_
        refine lv_aload_n hx hb d_M_next_30 rfl (lv_at hl 0 rfl) ?_
        refine va_get (ci := 12) (v := .ref (ad 33)) hx hb htg in_M hown hK hP 0 rfl rfl 33 (by decide) (htg _ m_643) (fun _ h9 => h9) rfl d_M_next_31 ?_
        refine lv_sipush (v := 514) hx hb d_M_next_34 (by decide) ?_
        refine lv_iload_n hx hb d_M_next_37 rfl (lv_at hl 1 rfl) ?_
        refine lv_imul hx hb d_M_next_38 ?_
        refine lv_iload_n hx hb d_M_next_39 rfl (lv_at hl 2 rfl) ?_
        refine lv_iadd hx hb d_M_next_40 ?_
        obtain ⟨hin, h⟩ := h
        refine va_iald hx hb hK hP 6 0 rfl rfl hin d_M_next_41 ?_
        refine lv_iload_n hx hb d_M_next_42 rfl (lv_at hl 3 rfl) ?_
        have hPc : va_P G vwCl [(a0, .inr (12, oM 0 v_o_typed v_o_rules v_o_at v_o_read v_o_depth v_o_wrong v_o_there v_o_ended v_o_mode v_o_kept v_o_came v_o_pending v_o_looked v_o_tokens v_o_oldest ad)), ((ad 30), .inl (K 0, 9252, .inl u4))] _ := hP.sub [0, 4] rfl
        refine vp_callSi (va_Run.run (va_runV (As := [.int x1, .int (u6 ((514 * x1) + x2).toNatClampNeg), .int x3]) (rest := [.int x1, .ref a0]) ⟨hx, hb, hml, hown, htg⟩ (k_M_go l G K a0 ad 0 v_o_typed v_o_rules v_o_at v_o_read v_o_depth v_o_wrong v_o_there v_o_ended v_o_mode v_o_kept v_o_came v_o_pending v_o_looked v_o_tokens v_o_oldest u4 x1 (u6 ((514 * x1) + x2).toNatClampNeg) x3 _ h) (cwV 3 htg (gGoodV m_752 m_753 m_885 m_13 m_754) rfl rfl rfl (by decide +kernel) ⟨(Nat.le_of_ble_eq_true rfl), (Nat.le_of_ble_eq_true rfl)⟩) (gS_preV (ci := 12) (q0 := 0) hK hN hPc rfl rfl) rfl rfl hl.1 rfl (lv_room (Nat.le_of_ble_eq_true rfl)) d_M_next_43 ⟨(Nat.le_of_ble_eq_true rfl), (Nat.le_of_ble_eq_true rfl)⟩)) (fun r10 h => ?_)
        have hPc : va_P G vwCl [(a0, .inr (12, oM 0 v_o_typed v_o_rules v_o_at v_o_read v_o_depth v_o_wrong v_o_there v_o_ended v_o_mode v_o_kept v_o_came v_o_pending v_o_looked v_o_tokens v_o_oldest ad)), ((ad 31), .inl (K 0, 1542, .inl u5))] _ := hP.sub [0, 5] rfl
        refine vp_callSi (va_Run.run (va_runV (As := [.int x1, .int r10]) (rest := []) ⟨hx, hb, hml, hown, htg⟩ (k_M_groupAt l G K a0 ad 0 v_o_typed v_o_rules v_o_at v_o_read v_o_depth v_o_wrong v_o_there v_o_ended v_o_mode v_o_kept v_o_came v_o_pending v_o_looked v_o_tokens v_o_oldest u5 x1 r10 _ h) (cwV 2 htg (gGoodV m_749 m_750 m_886 m_13 m_751) rfl rfl rfl (by decide +kernel) ⟨(Nat.le_of_ble_eq_true rfl), (Nat.le_of_ble_eq_true rfl)⟩) (gS_preV (ci := 12) (q0 := 0) hK hN hPc rfl rfl) rfl rfl hl.1 rfl (lv_room (Nat.le_of_ble_eq_true rfl)) d_M_next_46 ⟨(Nat.le_of_ble_eq_true rfl), (Nat.le_of_ble_eq_true rfl)⟩)) (fun r11 h => ?_)
        exact hret _ (0, u1, u2, u3, u4, u5, u6, u7, u8) _ _ _ _ h (vp_nar_int _) (hP.sub [0, 1, 2, 3, 4, 5, 6, 7, 8] rfl) (hD.sub [0, 1, 2, 3, 4, 5, 6, 7, 8] (by decide) rfl) hS d_M_next_49
      · replace h := h.2 hc
        refine lv_iconst (v := (-1)) hx hb d_M_next_24 (by decide) ?_
        exact hret _ (0, u1, u2, u3, u4, u5, u6, u7, u8) _ _ _ _ h (vp_nar_int _) (hP.sub [0, 1, 2, 3, 4, 5, 6, 7, 8] rfl) (hD.sub [0, 1, 2, 3, 4, 5, 6, 7, 8] (by decide) rfl) hS d_M_next_25
def p_M_winner (v_o_rules : Int32) (f_o_made : (Nat → Int32)) (f_o_nodes : (Nat → Int32)) (f_o_modeOf : (Nat → Int32)) (f_o_firstOf : (Nat → Int32)) (f_o_many : (Nat → Int32)) (f_o_set : (Nat → Int32)) (f_o_behind : (Nat → Int32)) (f_o_letters : (Nat → Int32)) (f_o_step : (Nat → Int32)) (f_o_lastOf : (Nat → Int32)) (f_o_group : (Nat → Int32)) (f_o_sample : (Nat → Int32)) (f_o_fresh : (Nat → Int32)) (f_o_groups : (Nat → Int32)) (x1 : Int32) (x2 : Int32) (post : Int32 → Int32 → (Nat → Int32) → (Nat → Int32) → (Nat → Int32) → (Nat → Int32) → (Nat → Int32) → (Nat → Int32) → (Nat → Int32) → (Nat → Int32) → Prop) : Prop := (p_M_isState v_o_rules f_o_made f_o_nodes f_o_modeOf f_o_firstOf f_o_many f_o_set f_o_behind f_o_letters f_o_step f_o_lastOf f_o_group f_o_sample f_o_fresh f_o_groups x1 x2 (fun r9 u1 u2 u3 u4 u5 u6 u7 u8 => ((r9 = 0 → (post (-1) 0 u1 u2 u3 u4 u5 u6 u7 u8)) ∧ (¬ r9 = 0 → (vp_in ((514 * x1) + x2) 1542 ∧ (p_M_wins v_o_rules f_o_modeOf u3 f_o_lastOf x1 (u6 ((514 * x1) + x2).toNatClampNeg) (fun r10 => (post r10 0 u1 u2 u3 u4 u5 u6 u7 u8))))))))
set_option maxHeartbeats 4000000 in
set_option maxRecDepth 100000 in
theorem k_M_winner (l : Launch) (G : va_G) (K : Nat → ClassId) (a0 : Nat) (ad : Nat → Nat) (sz : Nat) (v_o_code : Int32) (v_o_typed : Int32) (v_o_rules : Int32) (v_o_at : Int32) (v_o_read : Int32) (v_o_depth : Int32) (v_o_wrong : Int32) (v_o_there : Int32) (v_o_ended : Int32) (v_o_mode : Int32) (v_o_kept : Int32) (v_o_came : Int32) (v_o_pending : Int32) (v_o_looked : Int32) (v_o_tokens : Int32) (v_o_oldest : Int32) (f_o_made : (Nat → Int32)) (f_o_nodes : (Nat → Int32)) (f_o_modeOf : (Nat → Int32)) (f_o_firstOf : (Nat → Int32)) (f_o_many : (Nat → Int32)) (f_o_set : (Nat → Int32)) (f_o_behind : (Nat → Int32)) (f_o_letters : (Nat → Int32)) (f_o_step : (Nat → Int32)) (f_o_lastOf : (Nat → Int32)) (f_o_group : (Nat → Int32)) (f_o_sample : (Nat → Int32)) (f_o_fresh : (Nat → Int32)) (f_o_groups : (Nat → Int32)) (x1 : Int32) (x2 : Int32) (post : Int32 → Int32 → (Nat → Int32) → (Nat → Int32) → (Nat → Int32) → (Nat → Int32) → (Nat → Int32) → (Nat → Int32) → (Nat → Int32) → (Nat → Int32) → Prop) (h : p_M_winner v_o_rules f_o_made f_o_nodes f_o_modeOf f_o_firstOf f_o_many f_o_set f_o_behind f_o_letters f_o_step f_o_lastOf f_o_group f_o_sample f_o_fresh f_o_groups x1 x2 post) : MWi l y_M_winner (.code y_M_winner c_M_winner 3 (some .int)) { frames := 5, cells := 0, slots := 0, locals := 121 } G K [(a0, .inr (12, oM v_o_code v_o_typed v_o_rules v_o_at v_o_read v_o_depth v_o_wrong v_o_there v_o_ended v_o_mode v_o_kept v_o_came v_o_pending v_o_looked v_o_tokens v_o_oldest ad)), ((ad 34), .inl (K 1, 3, .inl f_o_made)), ((ad 28), .inl (K 0, 3, .inl f_o_nodes)), ((ad 29), .inl (K 0, 1542, .inl f_o_set)), ((ad 30), .inl (K 0, 9252, .inl f_o_step)), ((ad 31), .inl (K 0, 1542, .inl f_o_group)), ((ad 33), .inl (K 0, 1542, .inl f_o_sample)), ((ad 50), .inl (K 0, 514, .inl f_o_fresh)), ((ad 32), .inl (K 0, 3, .inl f_o_groups))] [((ad 4), .inl (K 0, 16, .inl f_o_modeOf)), ((ad 6), .inl (K 0, 16, .inl f_o_firstOf)), ((ad 8), .inl (K 0, 3, .inl f_o_many)), ((ad 11), .inl (K 0, 27, .inl f_o_behind)), ((ad 9), .inl (K 0, 27, .inl f_o_letters)), ((ad 7), .inl (K 0, 16, .inl f_o_lastOf))] [.ref a0, .int x1, .int x2] sz (fun r (u : Int32 × (Nat → Int32) × (Nat → Int32) × (Nat → Int32) × (Nat → Int32) × (Nat → Int32) × (Nat → Int32) × (Nat → Int32) × (Nat → Int32)) => post r u.1 u.2.1 u.2.2.1 u.2.2.2.1 u.2.2.2.2.1 u.2.2.2.2.2.1 u.2.2.2.2.2.2.1 u.2.2.2.2.2.2.2.1 u.2.2.2.2.2.2.2.2) (fun u => [(a0, .inr (12, oM u.1 v_o_typed v_o_rules v_o_at v_o_read v_o_depth v_o_wrong v_o_there v_o_ended v_o_mode v_o_kept v_o_came v_o_pending v_o_looked v_o_tokens v_o_oldest ad)), ((ad 34), .inl (K 1, 3, .inl u.2.1)), ((ad 28), .inl (K 0, 3, .inl u.2.2.1)), ((ad 29), .inl (K 0, 1542, .inl u.2.2.2.1)), ((ad 30), .inl (K 0, 9252, .inl u.2.2.2.2.1)), ((ad 31), .inl (K 0, 1542, .inl u.2.2.2.2.2.1)), ((ad 33), .inl (K 0, 1542, .inl u.2.2.2.2.2.2.1)), ((ad 50), .inl (K 0, 514, .inl u.2.2.2.2.2.2.2.1)), ((ad 32), .inl (K 0, 3, .inl u.2.2.2.2.2.2.2.2))]) 0 0 := by
  refine g_metWi (cc := c_M_winner) (maxL := 3) (ret := some .int) (rt := .int) (by decide) rfl rfl (Nat.le_of_ble_eq_true rfl) ?_
  intro p e s m below meth c A Q hx hb hml hown hname htg hK hN hP hD hA hS hR rN hret ls hl
  have hl : lv_has ls 3 [(0, .ref a0), (1, .int x1), (2, .int x2)] := hl
  refine lv_aload_n hx hb d_M_winner_0 rfl (lv_at hl 0 rfl) ?_
  refine lv_iconst (v := 0) hx hb d_M_winner_1 (by decide) ?_
  refine va_put (ci := 12) (v := .int 0) (ty := .int) hx hb htg in_M t_M tok_M nm_M hown hK hP hD hS 0 rfl rfl 0 (by decide) (htg _ m_610) (fun _ h9 => h9) rfl (by decide +kernel) rfl rfl (Nat.le_of_ble_eq_true rfl) d_M_winner_2 (fun H locs hP hD hS => ?_)
  have hP : va_P G vwCl [(a0, .inr (12, oM 0 v_o_typed v_o_rules v_o_at v_o_read v_o_depth v_o_wrong v_o_there v_o_ended v_o_mode v_o_kept v_o_came v_o_pending v_o_looked v_o_tokens v_o_oldest ad)), ((ad 34), .inl (K 1, 3, .inl f_o_made)), ((ad 28), .inl (K 0, 3, .inl f_o_nodes)), ((ad 29), .inl (K 0, 1542, .inl f_o_set)), ((ad 30), .inl (K 0, 9252, .inl f_o_step)), ((ad 31), .inl (K 0, 1542, .inl f_o_group)), ((ad 33), .inl (K 0, 1542, .inl f_o_sample)), ((ad 50), .inl (K 0, 514, .inl f_o_fresh)), ((ad 32), .inl (K 0, 3, .inl f_o_groups))] H := hP
  have hD : va_D A [(a0, .inr (12, oM 0 v_o_typed v_o_rules v_o_at v_o_read v_o_depth v_o_wrong v_o_there v_o_ended v_o_mode v_o_kept v_o_came v_o_pending v_o_looked v_o_tokens v_o_oldest ad)), ((ad 34), .inl (K 1, 3, .inl f_o_made)), ((ad 28), .inl (K 0, 3, .inl f_o_nodes)), ((ad 29), .inl (K 0, 1542, .inl f_o_set)), ((ad 30), .inl (K 0, 9252, .inl f_o_step)), ((ad 31), .inl (K 0, 1542, .inl f_o_group)), ((ad 33), .inl (K 0, 1542, .inl f_o_sample)), ((ad 50), .inl (K 0, 514, .inl f_o_fresh)), ((ad 32), .inl (K 0, 3, .inl f_o_groups))] := hD
  refine lv_aload_n hx hb d_M_winner_5 rfl (lv_at hl 0 rfl) ?_
  refine lv_iload_n hx hb d_M_winner_6 rfl (lv_at hl 1 rfl) ?_
  refine lv_iload_n hx hb d_M_winner_7 rfl (lv_at hl 2 rfl) ?_
  have hPc : va_P G vwCl [((ad 34), .inl (K 1, 3, .inl f_o_made)), ((ad 28), .inl (K 0, 3, .inl f_o_nodes)), ((ad 29), .inl (K 0, 1542, .inl f_o_set)), ((ad 30), .inl (K 0, 9252, .inl f_o_step)), ((ad 31), .inl (K 0, 1542, .inl f_o_group)), ((ad 33), .inl (K 0, 1542, .inl f_o_sample)), ((ad 50), .inl (K 0, 514, .inl f_o_fresh)), ((ad 32), .inl (K 0, 3, .inl f_o_groups))] _ := hP.sub [1, 2, 3, 4, 5, 6, 7, 8] rfl
  have hDc : va_D A [((ad 34), .inl (K 1, 3, .inl f_o_made)), ((ad 28), .inl (K 0, 3, .inl f_o_nodes)), ((ad 29), .inl (K 0, 1542, .inl f_o_set)), ((ad 30), .inl (K 0, 9252, .inl f_o_step)), ((ad 31), .inl (K 0, 1542, .inl f_o_group)), ((ad 33), .inl (K 0, 1542, .inl f_o_sample)), ((ad 50), .inl (K 0, 514, .inl f_o_fresh)), ((ad 32), .inl (K 0, 3, .inl f_o_groups))] := hD.sub [1, 2, 3, 4, 5, 6, 7, 8] (by decide) rfl
  have hRc : va_P G vwCl [(a0, .inr (12, oM 0 v_o_typed v_o_rules v_o_at v_o_read v_o_depth v_o_wrong v_o_there v_o_ended v_o_mode v_o_kept v_o_came v_o_pending v_o_looked v_o_tokens v_o_oldest ad)), ((ad 4), .inl (K 0, 16, .inl f_o_modeOf)), ((ad 6), .inl (K 0, 16, .inl f_o_firstOf)), ((ad 8), .inl (K 0, 3, .inl f_o_many)), ((ad 11), .inl (K 0, 27, .inl f_o_behind)), ((ad 9), .inl (K 0, 27, .inl f_o_letters)), ((ad 7), .inl (K 0, 16, .inl f_o_lastOf))] _ := (hP.app (gR hR rN hS)).sub [0, 9, 10, 11, 12, 13, 14] rfl
  have hJc : gJ [((ad 34), .inl (K 1, 3, .inl f_o_made)), ((ad 28), .inl (K 0, 3, .inl f_o_nodes)), ((ad 29), .inl (K 0, 1542, .inl f_o_set)), ((ad 30), .inl (K 0, 9252, .inl f_o_step)), ((ad 31), .inl (K 0, 1542, .inl f_o_group)), ((ad 33), .inl (K 0, 1542, .inl f_o_sample)), ((ad 50), .inl (K 0, 514, .inl f_o_fresh)), ((ad 32), .inl (K 0, 3, .inl f_o_groups))] [(a0, .inr (12, oM 0 v_o_typed v_o_rules v_o_at v_o_read v_o_depth v_o_wrong v_o_there v_o_ended v_o_mode v_o_kept v_o_came v_o_pending v_o_looked v_o_tokens v_o_oldest ad)), ((ad 4), .inl (K 0, 16, .inl f_o_modeOf)), ((ad 6), .inl (K 0, 16, .inl f_o_firstOf)), ((ad 8), .inl (K 0, 3, .inl f_o_many)), ((ad 11), .inl (K 0, 27, .inl f_o_behind)), ((ad 9), .inl (K 0, 27, .inl f_o_letters)), ((ad 7), .inl (K 0, 16, .inl f_o_lastOf))] := gJ_sub hD rN [1, 2, 3, 4, 5, 6, 7, 8] [0, 9, 10, 11, 12, 13, 14] rfl rfl (by decide)
  refine g_calli (wr := [(a0, .inr (12, oM 0 v_o_typed v_o_rules v_o_at v_o_read v_o_depth v_o_wrong v_o_there v_o_ended v_o_mode v_o_kept v_o_came v_o_pending v_o_looked v_o_tokens v_o_oldest ad))]) (va_runV (As := [.int x1, .int x2]) (rest := []) ⟨hx, hb, hml, hown, htg⟩ (k_M_isState l G K a0 ad _ 0 v_o_typed v_o_rules v_o_at v_o_read v_o_depth v_o_wrong v_o_there v_o_ended v_o_mode v_o_kept v_o_came v_o_pending v_o_looked v_o_tokens v_o_oldest f_o_made f_o_nodes f_o_modeOf f_o_firstOf f_o_many f_o_set f_o_behind f_o_letters f_o_step f_o_lastOf f_o_group f_o_sample f_o_fresh f_o_groups x1 x2 _ h) (cwV 2 htg (gGoodV m_722 m_723 m_889 m_13 m_724) rfl rfl rfl (by decide +kernel) ⟨(Nat.le_of_ble_eq_true rfl), (Nat.le_of_ble_eq_true rfl)⟩) (gW_preV (ci := 12) (q0 := 0) hK hN hPc hDc hRc hJc hRc rfl rfl) rfl rfl hl.1 rfl (lv_room (Nat.le_of_ble_eq_true rfl)) d_M_winner_8 ⟨(Nat.le_of_ble_eq_true rfl), (Nat.le_of_ble_eq_true rfl)⟩) hP hD hS hA [1, 2, 3, 4, 5, 6, 7, 8] [0] rfl rfl (by decide) (by decide) (fun r9 u H locs h hP hD hS => ?_)
  obtain ⟨u1, u2, u3, u4, u5, u6, u7, u8⟩ := u
  try dsimp only at h
  have hP : va_P G vwCl [(a0, .inr (12, oM 0 v_o_typed v_o_rules v_o_at v_o_read v_o_depth v_o_wrong v_o_there v_o_ended v_o_mode v_o_kept v_o_came v_o_pending v_o_looked v_o_tokens v_o_oldest ad)), ((ad 34), .inl (K 1, 3, .inl u1)), ((ad 28), .inl (K 0, 3, .inl u2)), ((ad 29), .inl (K 0, 1542, .inl u3)), ((ad 30), .inl (K 0, 9252, .inl u4)), ((ad 31), .inl (K 0, 1542, .inl u5)), ((ad 33), .inl (K 0, 1542, .inl u6)), ((ad 50), .inl (K 0, 514, .inl u7)), ((ad 32), .inl (K 0, 3, .inl u8))] H := hP
  have hD : va_D A [(a0, .inr (12, oM 0 v_o_typed v_o_rules v_o_at v_o_read v_o_depth v_o_wrong v_o_there v_o_ended v_o_mode v_o_kept v_o_came v_o_pending v_o_looked v_o_tokens v_o_oldest ad)), ((ad 34), .inl (K 1, 3, .inl u1)), ((ad 28), .inl (K 0, 3, .inl u2)), ((ad 29), .inl (K 0, 1542, .inl u3)), ((ad 30), .inl (K 0, 9252, .inl u4)), ((ad 31), .inl (K 0, 1542, .inl u5)), ((ad 33), .inl (K 0, 1542, .inl u6)), ((ad 50), .inl (K 0, 514, .inl u7)), ((ad 32), .inl (K 0, 3, .inl u8))] := hD
  refine lv_if_eq (tgt := 34) hx hb d_M_winner_11 (by decide) (fun hc => ?_) (fun hc => ?_)
  · replace h := h.1 hc
    refine lv_iconst (v := (-1)) hx hb d_M_winner_34 (by decide) ?_
    exact hret _ (0, u1, u2, u3, u4, u5, u6, u7, u8) _ _ _ _ h (vp_nar_int _) (hP.sub [0, 1, 2, 3, 4, 5, 6, 7, 8] rfl) (hD.sub [0, 1, 2, 3, 4, 5, 6, 7, 8] (by decide) rfl) hS d_M_winner_35
  · replace h := h.2 hc
    refine lv_aload_n hx hb d_M_winner_14 rfl (lv_at hl 0 rfl) ?_
    refine lv_iload_n hx hb d_M_winner_15 rfl (lv_at hl 1 rfl) ?_
    refine lv_aload_n hx hb d_M_winner_16 rfl (lv_at hl 0 rfl) ?_
    refine va_get (ci := 12) (v := .ref (ad 33)) hx hb htg in_M hown hK hP 0 rfl rfl 33 (by decide) (htg _ m_643) (fun _ h9 => h9) rfl d_M_winner_17 ?_
    refine lv_sipush (v := 514) hx hb d_M_winner_20 (by decide) ?_
    refine lv_iload_n hx hb d_M_winner_23 rfl (lv_at hl 1 rfl) ?_
    refine lv_imul hx hb d_M_winner_24 ?_
    refine lv_iload_n hx hb d_M_winner_25 rfl (lv_at hl 2 rfl) ?_
    refine lv_iadd hx hb d_M_winner_26 ?_
    obtain ⟨hin, h⟩ := h
    refine va_iald hx hb hK hP 6 0 rfl rfl hin d_M_winner_27 ?_
    have hPc : va_P G vwCl [(a0, .inr (12, oM 0 v_o_typed v_o_rules v_o_at v_o_read v_o_depth v_o_wrong v_o_there v_o_ended v_o_mode v_o_kept v_o_came v_o_pending v_o_looked v_o_tokens v_o_oldest ad)), ((ad 4), .inl (K 0, 16, .inl f_o_modeOf)), ((ad 29), .inl (K 0, 1542, .inl u3)), ((ad 7), .inl (K 0, 16, .inl f_o_lastOf))] _ := (hP.app (gR hR rN hS)).sub [0, 9, 3, 14] rfl
    refine vp_callSi (va_Run.run (va_runV (As := [.int x1, .int (u6 ((514 * x1) + x2).toNatClampNeg)]) (rest := []) ⟨hx, hb, hml, hown, htg⟩ (k_M_wins l G K a0 ad 0 v_o_typed v_o_rules v_o_at v_o_read v_o_depth v_o_wrong v_o_there v_o_ended v_o_mode v_o_kept v_o_came v_o_pending v_o_looked v_o_tokens v_o_oldest f_o_modeOf u3 f_o_lastOf x1 (u6 ((514 * x1) + x2).toNatClampNeg) _ h) (cwV 2 htg (gGoodV m_740 m_741 m_904 m_13 m_742) rfl rfl rfl (by decide +kernel) ⟨(Nat.le_of_ble_eq_true rfl), (Nat.le_of_ble_eq_true rfl)⟩) (gS_preV (ci := 12) (q0 := 0) hK hN hPc rfl rfl) rfl rfl hl.1 rfl (lv_room (Nat.le_of_ble_eq_true rfl)) d_M_winner_28 ⟨(Nat.le_of_ble_eq_true rfl), (Nat.le_of_ble_eq_true rfl)⟩)) (fun r10 h => ?_)
    refine lv_goto (tgt := 35) hx hb d_M_winner_31 (by decide) ?_
    exact hret _ (0, u1, u2, u3, u4, u5, u6, u7, u8) _ _ _ _ h (vp_nar_int _) (hP.sub [0, 1, 2, 3, 4, 5, 6, 7, 8] rfl) (hD.sub [0, 1, 2, 3, 4, 5, 6, 7, 8] (by decide) rfl) hS d_M_winner_35
def p_M_never_33 (v_o_rules : Int32) (f_o_modeOf : (Nat → Int32)) (f_o_lastOf : (Nat → Int32)) (x1 : Int32) (post : Int32 → Int32 → (Nat → Int32) → (Nat → Int32) → (Nat → Int32) → (Nat → Int32) → (Nat → Int32) → (Nat → Int32) → (Nat → Int32) → (Nat → Int32) → Prop) : Nat → Int32 → Int32 → Int32 → (Nat → Int32) → (Nat → Int32) → (Nat → Int32) → (Nat → Int32) → (Nat → Int32) → (Nat → Int32) → (Nat → Int32) → (Nat → Int32) → Prop
  | 0, _, _, _, _, _, _, _, _, _, _, _ => False
  | n + 1, l2, l3, v_o_code, f_o_made, f_o_nodes, f_o_set, f_o_step, f_o_group, f_o_sample, f_o_fresh, f_o_groups => (vp_in l2 3 ∧ (((f_o_nodes l2.toNatClampNeg) ≤ l3 → (post 1 v_o_code f_o_made f_o_nodes f_o_set f_o_step f_o_group f_o_sample f_o_fresh f_o_groups)) ∧ (¬ (f_o_nodes l2.toNatClampNeg) ≤ l3 → (p_M_wins v_o_rules f_o_modeOf f_o_set f_o_lastOf l2 l3 (fun r4301 => ((¬ r4301 = x1 → (p_M_never_33 v_o_rules f_o_modeOf f_o_lastOf x1 post n l2 (l3 + 1) v_o_code f_o_made f_o_nodes f_o_set f_o_step f_o_group f_o_sample f_o_fresh f_o_groups)) ∧ (r4301 = x1 → (post 0 v_o_code f_o_made f_o_nodes f_o_set f_o_step f_o_group f_o_sample f_o_fresh f_o_groups))))))))
def p_M_never (v_o_rules : Int32) (f_o_modeOf : (Nat → Int32)) (f_o_made : (Nat → Int32)) (f_o_nodes : (Nat → Int32)) (f_o_firstOf : (Nat → Int32)) (f_o_many : (Nat → Int32)) (f_o_set : (Nat → Int32)) (f_o_behind : (Nat → Int32)) (f_o_letters : (Nat → Int32)) (f_o_step : (Nat → Int32)) (f_o_lastOf : (Nat → Int32)) (f_o_group : (Nat → Int32)) (f_o_sample : (Nat → Int32)) (f_o_fresh : (Nat → Int32)) (f_o_groups : (Nat → Int32)) (x1 : Int32) (post : Int32 → Int32 → (Nat → Int32) → (Nat → Int32) → (Nat → Int32) → (Nat → Int32) → (Nat → Int32) → (Nat → Int32) → (Nat → Int32) → (Nat → Int32) → Prop) : Prop := ((x1 < 0 → (post 0 0 f_o_made f_o_nodes f_o_set f_o_step f_o_group f_o_sample f_o_fresh f_o_groups)) ∧ (¬ x1 < 0 → ((x1 < v_o_rules → (vp_in x1 16 ∧ (p_M_make v_o_rules f_o_made f_o_nodes f_o_modeOf f_o_firstOf f_o_many f_o_set f_o_behind f_o_letters f_o_step f_o_lastOf f_o_group f_o_sample f_o_fresh f_o_groups (f_o_modeOf x1.toNatClampNeg) (fun u1 u2 u3 u4 u5 u6 u7 u8 => (∃ k, p_M_never_33 v_o_rules f_o_modeOf f_o_lastOf x1 post k (f_o_modeOf x1.toNatClampNeg) 0 0 u1 u2 u3 u4 u5 u6 u7 u8))))) ∧ (¬ x1 < v_o_rules → (post 0 0 f_o_made f_o_nodes f_o_set f_o_step f_o_group f_o_sample f_o_fresh f_o_groups)))))
set_option maxHeartbeats 4000000 in
set_option maxRecDepth 100000 in
theorem k_M_never (l : Launch) (G : va_G) (K : Nat → ClassId) (a0 : Nat) (ad : Nat → Nat) (sz : Nat) (v_o_code : Int32) (v_o_typed : Int32) (v_o_rules : Int32) (v_o_at : Int32) (v_o_read : Int32) (v_o_depth : Int32) (v_o_wrong : Int32) (v_o_there : Int32) (v_o_ended : Int32) (v_o_mode : Int32) (v_o_kept : Int32) (v_o_came : Int32) (v_o_pending : Int32) (v_o_looked : Int32) (v_o_tokens : Int32) (v_o_oldest : Int32) (f_o_modeOf : (Nat → Int32)) (f_o_made : (Nat → Int32)) (f_o_nodes : (Nat → Int32)) (f_o_firstOf : (Nat → Int32)) (f_o_many : (Nat → Int32)) (f_o_set : (Nat → Int32)) (f_o_behind : (Nat → Int32)) (f_o_letters : (Nat → Int32)) (f_o_step : (Nat → Int32)) (f_o_lastOf : (Nat → Int32)) (f_o_group : (Nat → Int32)) (f_o_sample : (Nat → Int32)) (f_o_fresh : (Nat → Int32)) (f_o_groups : (Nat → Int32)) (x1 : Int32) (post : Int32 → Int32 → (Nat → Int32) → (Nat → Int32) → (Nat → Int32) → (Nat → Int32) → (Nat → Int32) → (Nat → Int32) → (Nat → Int32) → (Nat → Int32) → Prop) (h : p_M_never v_o_rules f_o_modeOf f_o_made f_o_nodes f_o_firstOf f_o_many f_o_set f_o_behind f_o_letters f_o_step f_o_lastOf f_o_group f_o_sample f_o_fresh f_o_groups x1 post) : MWi l y_M_never (.code y_M_never c_M_never 4 (some .boolean)) { frames := 4, cells := 0, slots := 0, locals := 99 } G K [(a0, .inr (12, oM v_o_code v_o_typed v_o_rules v_o_at v_o_read v_o_depth v_o_wrong v_o_there v_o_ended v_o_mode v_o_kept v_o_came v_o_pending v_o_looked v_o_tokens v_o_oldest ad)), ((ad 34), .inl (K 1, 3, .inl f_o_made)), ((ad 28), .inl (K 0, 3, .inl f_o_nodes)), ((ad 29), .inl (K 0, 1542, .inl f_o_set)), ((ad 30), .inl (K 0, 9252, .inl f_o_step)), ((ad 31), .inl (K 0, 1542, .inl f_o_group)), ((ad 33), .inl (K 0, 1542, .inl f_o_sample)), ((ad 50), .inl (K 0, 514, .inl f_o_fresh)), ((ad 32), .inl (K 0, 3, .inl f_o_groups))] [((ad 4), .inl (K 0, 16, .inl f_o_modeOf)), ((ad 6), .inl (K 0, 16, .inl f_o_firstOf)), ((ad 8), .inl (K 0, 3, .inl f_o_many)), ((ad 11), .inl (K 0, 27, .inl f_o_behind)), ((ad 9), .inl (K 0, 27, .inl f_o_letters)), ((ad 7), .inl (K 0, 16, .inl f_o_lastOf))] [.ref a0, .int x1] sz (fun r (u : Int32 × (Nat → Int32) × (Nat → Int32) × (Nat → Int32) × (Nat → Int32) × (Nat → Int32) × (Nat → Int32) × (Nat → Int32) × (Nat → Int32)) => post r u.1 u.2.1 u.2.2.1 u.2.2.2.1 u.2.2.2.2.1 u.2.2.2.2.2.1 u.2.2.2.2.2.2.1 u.2.2.2.2.2.2.2.1 u.2.2.2.2.2.2.2.2) (fun u => [(a0, .inr (12, oM u.1 v_o_typed v_o_rules v_o_at v_o_read v_o_depth v_o_wrong v_o_there v_o_ended v_o_mode v_o_kept v_o_came v_o_pending v_o_looked v_o_tokens v_o_oldest ad)), ((ad 34), .inl (K 1, 3, .inl u.2.1)), ((ad 28), .inl (K 0, 3, .inl u.2.2.1)), ((ad 29), .inl (K 0, 1542, .inl u.2.2.2.1)), ((ad 30), .inl (K 0, 9252, .inl u.2.2.2.2.1)), ((ad 31), .inl (K 0, 1542, .inl u.2.2.2.2.2.1)), ((ad 33), .inl (K 0, 1542, .inl u.2.2.2.2.2.2.1)), ((ad 50), .inl (K 0, 514, .inl u.2.2.2.2.2.2.2.1)), ((ad 32), .inl (K 0, 3, .inl u.2.2.2.2.2.2.2.2))]) 0 0 := by
  refine g_metWi (cc := c_M_never) (maxL := 4) (ret := some .boolean) (rt := .boolean) (by decide) rfl rfl (Nat.le_of_ble_eq_true rfl) ?_
  intro p e s m below meth c A Q hx hb hml hown hname htg hK hN hP hD hA hS hR rN hret ls hl
  have hl : lv_has ls 4 [(0, .ref a0), (1, .int x1)] := hl
  have C_33 : ∀ (n : Nat) (l2 : Int32) (l3 : Int32) (v_o_code : Int32) (f_o_made : (Nat → Int32)) (f_o_nodes : (Nat → Int32)) (f_o_set : (Nat → Int32)) (f_o_step : (Nat → Int32)) (f_o_group : (Nat → Int32)) (f_o_sample : (Nat → Int32)) (f_o_fresh : (Nat → Int32)) (f_o_groups : (Nat → Int32)) (H : Heap) (locs : List Loc), va_P G vwCl [(a0, .inr (12, oM v_o_code v_o_typed v_o_rules v_o_at v_o_read v_o_depth v_o_wrong v_o_there v_o_ended v_o_mode v_o_kept v_o_came v_o_pending v_o_looked v_o_tokens v_o_oldest ad)), ((ad 34), .inl (K 1, 3, .inl f_o_made)), ((ad 28), .inl (K 0, 3, .inl f_o_nodes)), ((ad 29), .inl (K 0, 1542, .inl f_o_set)), ((ad 30), .inl (K 0, 9252, .inl f_o_step)), ((ad 31), .inl (K 0, 1542, .inl f_o_group)), ((ad 33), .inl (K 0, 1542, .inl f_o_sample)), ((ad 50), .inl (K 0, 514, .inl f_o_fresh)), ((ad 32), .inl (K 0, 3, .inl f_o_groups))] H → va_D A [(a0, .inr (12, oM v_o_code v_o_typed v_o_rules v_o_at v_o_read v_o_depth v_o_wrong v_o_there v_o_ended v_o_mode v_o_kept v_o_came v_o_pending v_o_looked v_o_tokens v_o_oldest ad)), ((ad 34), .inl (K 1, 3, .inl f_o_made)), ((ad 28), .inl (K 0, 3, .inl f_o_nodes)), ((ad 29), .inl (K 0, 1542, .inl f_o_set)), ((ad 30), .inl (K 0, 9252, .inl f_o_step)), ((ad 31), .inl (K 0, 1542, .inl f_o_group)), ((ad 33), .inl (K 0, 1542, .inl f_o_sample)), ((ad 50), .inl (K 0, 514, .inl f_o_fresh)), ((ad 32), .inl (K 0, 3, .inl f_o_groups))] → va_S A s.heap H locs → ∀ (ls : Array Slot), lv_has ls 4 [(0, .ref a0), (1, .int x1), (2, .int l2), (3, .int l3)] → p_M_never_33 v_o_rules f_o_modeOf f_o_lastOf x1 post n l2 l3 v_o_code f_o_made f_o_nodes f_o_set f_o_step f_o_group f_o_sample f_o_fresh f_o_groups → W p l e { frames := 4, cells := 0, slots := 0, locals := 99 } s m ([.ref a0, .int x1] : List Value).toArray below meth c H locs 0 0 Q (F0 m 33 ls []) := by
    intro n
    induction n with
    | zero =>
      intro l2 l3 v_o_code f_o_made f_o_nodes f_o_set f_o_step f_o_group f_o_sample f_o_fresh f_o_groups  H locs hP hD hS ls hl h
      exact False.elim h
    | succ n ih =>
      intro l2 l3 v_o_code f_o_made f_o_nodes f_o_set f_o_step f_o_group f_o_sample f_o_fresh f_o_groups  H locs hP hD hS ls hl h
      refine lv_iload_n hx hb d_M_never_33 rfl (lv_at hl 3 rfl) ?_
      refine lv_aload_n hx hb d_M_never_34 rfl (lv_at hl 0 rfl) ?_
      refine va_get (ci := 12) (v := .ref (ad 28)) hx hb htg in_M hown hK hP 0 rfl rfl 28 (by decide) (htg _ m_638) (fun _ h9 => h9) rfl d_M_never_35 ?_
      refine lv_iload_n hx hb d_M_never_38 rfl (lv_at hl 2 rfl) ?_
      obtain ⟨hin, h⟩ := h
      refine va_iald hx hb hK hP 2 0 rfl rfl hin d_M_never_39 ?_
      refine lv_icmp_ge (tgt := 61) hx hb d_M_never_40 (by decide) (fun hc => ?_) (fun hc => ?_)
      · replace h := h.1 hc
        refine lv_iconst (v := 1) hx hb d_M_never_61 (by decide) ?_
        exact hret _ (v_o_code, f_o_made, f_o_nodes, f_o_set, f_o_step, f_o_group, f_o_sample, f_o_fresh, f_o_groups) _ _ _ _ h (by decide +kernel) (hP.sub [0, 1, 2, 3, 4, 5, 6, 7, 8] rfl) (hD.sub [0, 1, 2, 3, 4, 5, 6, 7, 8] (by decide) rfl) hS d_M_never_62
      · replace h := h.2 hc
        refine lv_aload_n hx hb d_M_never_43 rfl (lv_at hl 0 rfl) ?_
        refine lv_iload_n hx hb d_M_never_44 rfl (lv_at hl 2 rfl) ?_
        refine lv_iload_n hx hb d_M_never_45 rfl (lv_at hl 3 rfl) ?_
        have hPc : va_P G vwCl [(a0, .inr (12, oM v_o_code v_o_typed v_o_rules v_o_at v_o_read v_o_depth v_o_wrong v_o_there v_o_ended v_o_mode v_o_kept v_o_came v_o_pending v_o_looked v_o_tokens v_o_oldest ad)), ((ad 4), .inl (K 0, 16, .inl f_o_modeOf)), ((ad 29), .inl (K 0, 1542, .inl f_o_set)), ((ad 7), .inl (K 0, 16, .inl f_o_lastOf))] _ := (hP.app (gR hR rN hS)).sub [0, 9, 3, 14] rfl
        refine vp_callSi (va_Run.run (va_runV (As := [.int l2, .int l3]) (rest := []) ⟨hx, hb, hml, hown, htg⟩ (k_M_wins l G K a0 ad v_o_code v_o_typed v_o_rules v_o_at v_o_read v_o_depth v_o_wrong v_o_there v_o_ended v_o_mode v_o_kept v_o_came v_o_pending v_o_looked v_o_tokens v_o_oldest f_o_modeOf f_o_set f_o_lastOf l2 l3 _ h) (cwV 2 htg (gGoodV m_740 m_741 m_904 m_13 m_742) rfl rfl rfl (by decide +kernel) ⟨(Nat.le_of_ble_eq_true rfl), (Nat.le_of_ble_eq_true rfl)⟩) (gS_preV (ci := 12) (q0 := 0) hK hN hPc rfl rfl) rfl rfl hl.1 rfl (lv_room (Nat.le_of_ble_eq_true rfl)) d_M_never_46 ⟨(Nat.le_of_ble_eq_true rfl), (Nat.le_of_ble_eq_true rfl)⟩)) (fun r4301 h => ?_)
        refine lv_iload_n hx hb d_M_never_49 rfl (lv_at hl 1 rfl) ?_
        refine lv_icmp_ne (tgt := 55) hx hb d_M_never_50 (by decide) (fun hc => ?_) (fun hc => ?_)
        · replace h := h.1 hc
          refine lv_iinc (v := (l3 + 1)) (lv' := [(3, .int (l3 + 1)), (0, .ref a0), (1, .int x1), (2, .int l2)]) hx hb d_M_never_55 hl (k := 3) rfl (by first | rfl | decide) (by decide) rfl (fun ls hl => ?_)
          refine lv_goto (tgt := 33) hx hb d_M_never_58 (by decide) ?_
          exact ih l2 (l3 + 1) v_o_code f_o_made f_o_nodes f_o_set f_o_step f_o_group f_o_sample f_o_fresh f_o_groups  _ _ (hP.sub [0, 1, 2, 3, 4, 5, 6, 7, 8] rfl) (hD.sub [0, 1, 2, 3, 4, 5, 6, 7, 8] (by decide) rfl) hS _ (lv_sub hl [1, 2, 3, 0] rfl) h
        · replace h := h.2 hc
          refine lv_iconst (v := 0) hx hb d_M_never_53 (by decide) ?_
          exact hret _ (v_o_code, f_o_made, f_o_nodes, f_o_set, f_o_step, f_o_group, f_o_sample, f_o_fresh, f_o_groups) _ _ _ _ h (by decide +kernel) (hP.sub [0, 1, 2, 3, 4, 5, 6, 7, 8] rfl) (hD.sub [0, 1, 2, 3, 4, 5, 6, 7, 8] (by decide) rfl) hS d_M_never_54
  refine lv_aload_n hx hb d_M_never_0 rfl (lv_at hl 0 rfl) ?_
  refine lv_iconst (v := 0) hx hb d_M_never_1 (by decide) ?_
  refine va_put (ci := 12) (v := .int 0) (ty := .int) hx hb htg in_M t_M tok_M nm_M hown hK hP hD hS 0 rfl rfl 0 (by decide) (htg _ m_610) (fun _ h9 => h9) rfl (by decide +kernel) rfl rfl (Nat.le_of_ble_eq_true rfl) d_M_never_2 (fun H locs hP hD hS => ?_)
  have hP : va_P G vwCl [(a0, .inr (12, oM 0 v_o_typed v_o_rules v_o_at v_o_read v_o_depth v_o_wrong v_o_there v_o_ended v_o_mode v_o_kept v_o_came v_o_pending v_o_looked v_o_tokens v_o_oldest ad)), ((ad 34), .inl (K 1, 3, .inl f_o_made)), ((ad 28), .inl (K 0, 3, .inl f_o_nodes)), ((ad 29), .inl (K 0, 1542, .inl f_o_set)), ((ad 30), .inl (K 0, 9252, .inl f_o_step)), ((ad 31), .inl (K 0, 1542, .inl f_o_group)), ((ad 33), .inl (K 0, 1542, .inl f_o_sample)), ((ad 50), .inl (K 0, 514, .inl f_o_fresh)), ((ad 32), .inl (K 0, 3, .inl f_o_groups))] H := hP
  have hD : va_D A [(a0, .inr (12, oM 0 v_o_typed v_o_rules v_o_at v_o_read v_o_depth v_o_wrong v_o_there v_o_ended v_o_mode v_o_kept v_o_came v_o_pending v_o_looked v_o_tokens v_o_oldest ad)), ((ad 34), .inl (K 1, 3, .inl f_o_made)), ((ad 28), .inl (K 0, 3, .inl f_o_nodes)), ((ad 29), .inl (K 0, 1542, .inl f_o_set)), ((ad 30), .inl (K 0, 9252, .inl f_o_step)), ((ad 31), .inl (K 0, 1542, .inl f_o_group)), ((ad 33), .inl (K 0, 1542, .inl f_o_sample)), ((ad 50), .inl (K 0, 514, .inl f_o_fresh)), ((ad 32), .inl (K 0, 3, .inl f_o_groups))] := hD
  refine lv_iload_n hx hb d_M_never_5 rfl (lv_at hl 1 rfl) ?_
  refine lv_if_lt (tgt := 17) hx hb d_M_never_6 (by decide) (fun hc => ?_) (fun hc => ?_)
  · replace h := h.1 hc
    refine lv_iconst (v := 0) hx hb d_M_never_17 (by decide) ?_
    exact hret _ (0, f_o_made, f_o_nodes, f_o_set, f_o_step, f_o_group, f_o_sample, f_o_fresh, f_o_groups) _ _ _ _ h (by decide +kernel) (hP.sub [0, 1, 2, 3, 4, 5, 6, 7, 8] rfl) (hD.sub [0, 1, 2, 3, 4, 5, 6, 7, 8] (by decide) rfl) hS d_M_never_18
  · replace h := h.2 hc
    refine lv_iload_n hx hb d_M_never_9 rfl (lv_at hl 1 rfl) ?_
    refine lv_aload_n hx hb d_M_never_10 rfl (lv_at hl 0 rfl) ?_
    refine va_get (ci := 12) (v := .int v_o_rules) hx hb htg in_M hown hK hP 0 rfl rfl 3 (by decide) (htg _ m_613) (fun _ h9 => h9) rfl d_M_never_11 ?_
    refine lv_icmp_lt (tgt := 19) hx hb d_M_never_14 (by decide) (fun hc => ?_) (fun hc => ?_)
    · replace h := h.1 hc
      refine lv_aload_n hx hb d_M_never_19 rfl (lv_at hl 0 rfl) ?_
      refine va_get (ci := 12) (v := .ref (ad 4)) hx hb htg in_M hown hK hP 0 rfl rfl 4 (by decide) (htg _ m_614) (fun _ h9 => h9) rfl d_M_never_20 ?_
      refine lv_iload_n hx hb d_M_never_23 rfl (lv_at hl 1 rfl) ?_
      obtain ⟨hin, h⟩ := h
      refine va_iald hx hb hK (gR hR rN hS) 0 0 rfl rfl hin d_M_never_24 ?_
      refine lv_istore_n (lv' := [(2, .int (f_o_modeOf x1.toNatClampNeg)), (0, .ref a0), (1, .int x1)]) hx hb d_M_never_25 rfl hl (by decide) rfl (fun ls hl => ?_)
      refine lv_aload_n hx hb d_M_never_26 rfl (lv_at hl 1 rfl) ?_
      refine lv_iload_n hx hb d_M_never_27 rfl (lv_at hl 0 rfl) ?_
      have hPc : va_P G vwCl [((ad 34), .inl (K 1, 3, .inl f_o_made)), ((ad 28), .inl (K 0, 3, .inl f_o_nodes)), ((ad 29), .inl (K 0, 1542, .inl f_o_set)), ((ad 30), .inl (K 0, 9252, .inl f_o_step)), ((ad 31), .inl (K 0, 1542, .inl f_o_group)), ((ad 33), .inl (K 0, 1542, .inl f_o_sample)), ((ad 50), .inl (K 0, 514, .inl f_o_fresh)), ((ad 32), .inl (K 0, 3, .inl f_o_groups))] _ := hP.sub [1, 2, 3, 4, 5, 6, 7, 8] rfl
      have hDc : va_D A [((ad 34), .inl (K 1, 3, .inl f_o_made)), ((ad 28), .inl (K 0, 3, .inl f_o_nodes)), ((ad 29), .inl (K 0, 1542, .inl f_o_set)), ((ad 30), .inl (K 0, 9252, .inl f_o_step)), ((ad 31), .inl (K 0, 1542, .inl f_o_group)), ((ad 33), .inl (K 0, 1542, .inl f_o_sample)), ((ad 50), .inl (K 0, 514, .inl f_o_fresh)), ((ad 32), .inl (K 0, 3, .inl f_o_groups))] := hD.sub [1, 2, 3, 4, 5, 6, 7, 8] (by decide) rfl
      have hRc : va_P G vwCl [(a0, .inr (12, oM 0 v_o_typed v_o_rules v_o_at v_o_read v_o_depth v_o_wrong v_o_there v_o_ended v_o_mode v_o_kept v_o_came v_o_pending v_o_looked v_o_tokens v_o_oldest ad)), ((ad 4), .inl (K 0, 16, .inl f_o_modeOf)), ((ad 6), .inl (K 0, 16, .inl f_o_firstOf)), ((ad 8), .inl (K 0, 3, .inl f_o_many)), ((ad 11), .inl (K 0, 27, .inl f_o_behind)), ((ad 9), .inl (K 0, 27, .inl f_o_letters)), ((ad 7), .inl (K 0, 16, .inl f_o_lastOf))] _ := (hP.app (gR hR rN hS)).sub [0, 9, 10, 11, 12, 13, 14] rfl
      have hJc : gJ [((ad 34), .inl (K 1, 3, .inl f_o_made)), ((ad 28), .inl (K 0, 3, .inl f_o_nodes)), ((ad 29), .inl (K 0, 1542, .inl f_o_set)), ((ad 30), .inl (K 0, 9252, .inl f_o_step)), ((ad 31), .inl (K 0, 1542, .inl f_o_group)), ((ad 33), .inl (K 0, 1542, .inl f_o_sample)), ((ad 50), .inl (K 0, 514, .inl f_o_fresh)), ((ad 32), .inl (K 0, 3, .inl f_o_groups))] [(a0, .inr (12, oM 0 v_o_typed v_o_rules v_o_at v_o_read v_o_depth v_o_wrong v_o_there v_o_ended v_o_mode v_o_kept v_o_came v_o_pending v_o_looked v_o_tokens v_o_oldest ad)), ((ad 4), .inl (K 0, 16, .inl f_o_modeOf)), ((ad 6), .inl (K 0, 16, .inl f_o_firstOf)), ((ad 8), .inl (K 0, 3, .inl f_o_many)), ((ad 11), .inl (K 0, 27, .inl f_o_behind)), ((ad 9), .inl (K 0, 27, .inl f_o_letters)), ((ad 7), .inl (K 0, 16, .inl f_o_lastOf))] := gJ_sub hD rN [1, 2, 3, 4, 5, 6, 7, 8] [0, 9, 10, 11, 12, 13, 14] rfl rfl (by decide)
      refine g_callv (wr := [(a0, .inr (12, oM 0 v_o_typed v_o_rules v_o_at v_o_read v_o_depth v_o_wrong v_o_there v_o_ended v_o_mode v_o_kept v_o_came v_o_pending v_o_looked v_o_tokens v_o_oldest ad))]) (va_runV (As := [.int (f_o_modeOf x1.toNatClampNeg)]) (rest := []) ⟨hx, hb, hml, hown, htg⟩ (k_M_make l G K a0 ad _ 0 v_o_typed v_o_rules v_o_at v_o_read v_o_depth v_o_wrong v_o_there v_o_ended v_o_mode v_o_kept v_o_came v_o_pending v_o_looked v_o_tokens v_o_oldest f_o_made f_o_nodes f_o_modeOf f_o_firstOf f_o_many f_o_set f_o_behind f_o_letters f_o_step f_o_lastOf f_o_group f_o_sample f_o_fresh f_o_groups (f_o_modeOf x1.toNatClampNeg) _ h) (cwV 1 htg (gGoodV m_728 m_729 m_891 m_13 m_730) rfl rfl rfl (by decide +kernel) ⟨(Nat.le_of_ble_eq_true rfl), (Nat.le_of_ble_eq_true rfl)⟩) (gW_preV (ci := 12) (q0 := 0) hK hN hPc hDc hRc hJc hRc rfl rfl) rfl rfl hl.1 rfl (lv_room (Nat.le_of_ble_eq_true rfl)) d_M_never_28 ⟨(Nat.le_of_ble_eq_true rfl), (Nat.le_of_ble_eq_true rfl)⟩) hP hD hS hA [1, 2, 3, 4, 5, 6, 7, 8] [0] rfl rfl (by decide) (by decide) (fun u H locs h hP hD hS => ?_)
      obtain ⟨u1, u2, u3, u4, u5, u6, u7, u8⟩ := u
      try dsimp only at h
      have hP : va_P G vwCl [(a0, .inr (12, oM 0 v_o_typed v_o_rules v_o_at v_o_read v_o_depth v_o_wrong v_o_there v_o_ended v_o_mode v_o_kept v_o_came v_o_pending v_o_looked v_o_tokens v_o_oldest ad)), ((ad 34), .inl (K 1, 3, .inl u1)), ((ad 28), .inl (K 0, 3, .inl u2)), ((ad 29), .inl (K 0, 1542, .inl u3)), ((ad 30), .inl (K 0, 9252, .inl u4)), ((ad 31), .inl (K 0, 1542, .inl u5)), ((ad 33), .inl (K 0, 1542, .inl u6)), ((ad 50), .inl (K 0, 514, .inl u7)), ((ad 32), .inl (K 0, 3, .inl u8))] H := hP
      have hD : va_D A [(a0, .inr (12, oM 0 v_o_typed v_o_rules v_o_at v_o_read v_o_depth v_o_wrong v_o_there v_o_ended v_o_mode v_o_kept v_o_came v_o_pending v_o_looked v_o_tokens v_o_oldest ad)), ((ad 34), .inl (K 1, 3, .inl u1)), ((ad 28), .inl (K 0, 3, .inl u2)), ((ad 29), .inl (K 0, 1542, .inl u3)), ((ad 30), .inl (K 0, 9252, .inl u4)), ((ad 31), .inl (K 0, 1542, .inl u5)), ((ad 33), .inl (K 0, 1542, .inl u6)), ((ad 50), .inl (K 0, 514, .inl u7)), ((ad 32), .inl (K 0, 3, .inl u8))] := hD
      refine lv_iconst (v := 0) hx hb d_M_never_31 (by decide) ?_
      refine lv_istore_n (lv' := [(3, .int 0), (2, .int (f_o_modeOf x1.toNatClampNeg)), (0, .ref a0), (1, .int x1)]) hx hb d_M_never_32 rfl hl (by decide) rfl (fun ls hl => ?_)
      obtain ⟨k, h⟩ := h
      exact C_33 k (f_o_modeOf x1.toNatClampNeg) 0 0 u1 u2 u3 u4 u5 u6 u7 u8  _ _ (hP.sub [0, 1, 2, 3, 4, 5, 6, 7, 8] rfl) (hD.sub [0, 1, 2, 3, 4, 5, 6, 7, 8] (by decide) rfl) hS _ (lv_sub hl [2, 3, 1, 0] rfl) h
    · replace h := h.2 hc
      refine lv_iconst (v := 0) hx hb d_M_never_17 (by decide) ?_
      exact hret _ (0, f_o_made, f_o_nodes, f_o_set, f_o_step, f_o_group, f_o_sample, f_o_fresh, f_o_groups) _ _ _ _ h (by decide +kernel) (hP.sub [0, 1, 2, 3, 4, 5, 6, 7, 8] rfl) (hD.sub [0, 1, 2, 3, 4, 5, 6, 7, 8] (by decide) rfl) hS d_M_never_18
