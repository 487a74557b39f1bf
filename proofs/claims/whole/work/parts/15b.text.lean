theorem d_RuleText_endSequence_0 : decode c_RuleText_endSequence 0 = .ok (.aload_n 0, 1) := by decide +kernel
theorem d_RuleText_endSequence_1 : decode c_RuleText_endSequence 1 = .ok (.getfield 37, 3) := by decide +kernel
theorem d_RuleText_endSequence_4 : decode c_RuleText_endSequence 4 = .ok (.aload_n 0, 1) := by decide +kernel
theorem d_RuleText_endSequence_5 : decode c_RuleText_endSequence 5 = .ok (.getfield 40, 3) := by decide +kernel
theorem d_RuleText_endSequence_8 : decode c_RuleText_endSequence 8 = .ok (.aaload, 1) := by decide +kernel
theorem d_RuleText_endSequence_9 : decode c_RuleText_endSequence 9 = .ok (.ifnonnull 5, 3) := by decide +kernel
theorem d_RuleText_endSequence_12 : decode c_RuleText_endSequence 12 = .ok (.iconst 0, 1) := by decide +kernel
theorem d_RuleText_endSequence_13 : decode c_RuleText_endSequence 13 = .ok (.ireturn, 1) := by decide +kernel
theorem d_RuleText_endSequence_14 : decode c_RuleText_endSequence 14 = .ok (.aload_n 0, 1) := by decide +kernel
theorem d_RuleText_endSequence_15 : decode c_RuleText_endSequence 15 = .ok (.aconst_null, 1) := by decide +kernel
theorem d_RuleText_endSequence_16 : decode c_RuleText_endSequence 16 = .ok (.invokevirtual 115, 3) := by decide +kernel
theorem d_RuleText_endSequence_19 : decode c_RuleText_endSequence 19 = .ok (.aload_n 0, 1) := by decide +kernel
theorem d_RuleText_endSequence_20 : decode c_RuleText_endSequence 20 = .ok (.getfield 30, 3) := by decide +kernel
theorem d_RuleText_endSequence_23 : decode c_RuleText_endSequence 23 = .ok (.aload_n 0, 1) := by decide +kernel
theorem d_RuleText_endSequence_24 : decode c_RuleText_endSequence 24 = .ok (.getfield 40, 3) := by decide +kernel
theorem d_RuleText_endSequence_27 : decode c_RuleText_endSequence 27 = .ok (.aload_n 0, 1) := by decide +kernel
theorem d_RuleText_endSequence_28 : decode c_RuleText_endSequence 28 = .ok (.getfield 30, 3) := by decide +kernel
theorem d_RuleText_endSequence_31 : decode c_RuleText_endSequence 31 = .ok (.aload_n 0, 1) := by decide +kernel
theorem d_RuleText_endSequence_32 : decode c_RuleText_endSequence 32 = .ok (.getfield 40, 3) := by decide +kernel
theorem d_RuleText_endSequence_35 : decode c_RuleText_endSequence 35 = .ok (.aaload, 1) := by decide +kernel
theorem d_RuleText_endSequence_36 : decode c_RuleText_endSequence 36 = .ok (.aload_n 0, 1) := by decide +kernel
theorem d_RuleText_endSequence_37 : decode c_RuleText_endSequence 37 = .ok (.getfield 34, 3) := by decide +kernel
theorem d_RuleText_endSequence_40 : decode c_RuleText_endSequence 40 = .ok (.aload_n 0, 1) := by decide +kernel
theorem d_RuleText_endSequence_41 : decode c_RuleText_endSequence 41 = .ok (.getfield 40, 3) := by decide +kernel
theorem d_RuleText_endSequence_44 : decode c_RuleText_endSequence 44 = .ok (.aaload, 1) := by decide +kernel
theorem d_RuleText_endSequence_45 : decode c_RuleText_endSequence 45 = .ok (.invokevirtual 119, 3) := by decide +kernel
theorem d_RuleText_endSequence_48 : decode c_RuleText_endSequence 48 = .ok (.aastore, 1) := by decide +kernel
theorem d_RuleText_endSequence_49 : decode c_RuleText_endSequence 49 = .ok (.aload_n 0, 1) := by decide +kernel
theorem d_RuleText_endSequence_50 : decode c_RuleText_endSequence 50 = .ok (.getfield 34, 3) := by decide +kernel
theorem d_RuleText_endSequence_53 : decode c_RuleText_endSequence 53 = .ok (.aload_n 0, 1) := by decide +kernel
theorem d_RuleText_endSequence_54 : decode c_RuleText_endSequence 54 = .ok (.getfield 40, 3) := by decide +kernel
theorem d_RuleText_endSequence_57 : decode c_RuleText_endSequence 57 = .ok (.aload_n 0, 1) := by decide +kernel
theorem d_RuleText_endSequence_58 : decode c_RuleText_endSequence 58 = .ok (.getfield 20, 3) := by decide +kernel
theorem d_RuleText_endSequence_61 : decode c_RuleText_endSequence 61 = .ok (.aastore, 1) := by decide +kernel
theorem d_RuleText_endSequence_62 : decode c_RuleText_endSequence 62 = .ok (.iconst 1, 1) := by decide +kernel
theorem d_RuleText_endSequence_63 : decode c_RuleText_endSequence 63 = .ok (.ireturn, 1) := by decide +kernel
theorem d_RuleText_repeatPart_0 : decode c_RuleText_repeatPart 0 = .ok (.aload_n 0, 1) := by decide +kernel
theorem d_RuleText_repeatPart_1 : decode c_RuleText_repeatPart 1 = .ok (.getfield 37, 3) := by decide +kernel
theorem d_RuleText_repeatPart_4 : decode c_RuleText_repeatPart 4 = .ok (.aload_n 0, 1) := by decide +kernel
theorem d_RuleText_repeatPart_5 : decode c_RuleText_repeatPart 5 = .ok (.getfield 40, 3) := by decide +kernel
theorem d_RuleText_repeatPart_8 : decode c_RuleText_repeatPart 8 = .ok (.aaload, 1) := by decide +kernel
theorem d_RuleText_repeatPart_9 : decode c_RuleText_repeatPart 9 = .ok (.astore_n 2, 1) := by decide +kernel
theorem d_RuleText_repeatPart_10 : decode c_RuleText_repeatPart 10 = .ok (.aload_n 2, 1) := by decide +kernel
theorem d_RuleText_repeatPart_11 : decode c_RuleText_repeatPart 11 = .ok (.ifnonnull 5, 3) := by decide +kernel
theorem d_RuleText_repeatPart_14 : decode c_RuleText_repeatPart 14 = .ok (.iconst 0, 1) := by decide +kernel
theorem d_RuleText_repeatPart_15 : decode c_RuleText_repeatPart 15 = .ok (.ireturn, 1) := by decide +kernel
theorem d_RuleText_repeatPart_16 : decode c_RuleText_repeatPart 16 = .ok (.iload_n 1, 1) := by decide +kernel
theorem d_RuleText_repeatPart_17 : decode c_RuleText_repeatPart 17 = .ok (.bipush 63, 2) := by decide +kernel
theorem d_RuleText_repeatPart_19 : decode c_RuleText_repeatPart 19 = .ok (.if_icmp .eq 15, 3) := by decide +kernel
theorem d_RuleText_repeatPart_22 : decode c_RuleText_repeatPart 22 = .ok (.aload_n 0, 1) := by decide +kernel
theorem d_RuleText_repeatPart_23 : decode c_RuleText_repeatPart 23 = .ok (.aload_n 2, 1) := by decide +kernel
theorem d_RuleText_repeatPart_24 : decode c_RuleText_repeatPart 24 = .ok (.getfield 78, 3) := by decide +kernel
theorem d_RuleText_repeatPart_27 : decode c_RuleText_repeatPart 27 = .ok (.aload_n 2, 1) := by decide +kernel
theorem d_RuleText_repeatPart_28 : decode c_RuleText_repeatPart 28 = .ok (.getfield 75, 3) := by decide +kernel
theorem d_RuleText_repeatPart_31 : decode c_RuleText_repeatPart 31 = .ok (.invokevirtual 123, 3) := by decide +kernel
theorem d_RuleText_repeatPart_34 : decode c_RuleText_repeatPart 34 = .ok (.iload_n 1, 1) := by decide +kernel
theorem d_RuleText_repeatPart_35 : decode c_RuleText_repeatPart 35 = .ok (.bipush 43, 2) := by decide +kernel
theorem d_RuleText_repeatPart_37 : decode c_RuleText_repeatPart 37 = .ok (.if_icmp .eq 16, 3) := by decide +kernel
theorem d_RuleText_repeatPart_40 : decode c_RuleText_repeatPart 40 = .ok (.aload_n 0, 1) := by decide +kernel
theorem d_RuleText_repeatPart_41 : decode c_RuleText_repeatPart 41 = .ok (.getfield 37, 3) := by decide +kernel
theorem d_RuleText_repeatPart_44 : decode c_RuleText_repeatPart 44 = .ok (.aload_n 0, 1) := by decide +kernel
theorem d_RuleText_repeatPart_45 : decode c_RuleText_repeatPart 45 = .ok (.getfield 40, 3) := by decide +kernel
theorem d_RuleText_repeatPart_48 : decode c_RuleText_repeatPart 48 = .ok (.aload_n 2, 1) := by decide +kernel
theorem d_RuleText_repeatPart_49 : decode c_RuleText_repeatPart 49 = .ok (.invokevirtual 130, 3) := by decide +kernel
theorem d_RuleText_repeatPart_52 : decode c_RuleText_repeatPart 52 = .ok (.aastore, 1) := by decide +kernel
theorem d_RuleText_repeatPart_53 : decode c_RuleText_repeatPart 53 = .ok (.iconst 1, 1) := by decide +kernel
theorem d_RuleText_repeatPart_54 : decode c_RuleText_repeatPart 54 = .ok (.ireturn, 1) := by decide +kernel
theorem d_RuleText_addPlace_0 : decode c_RuleText_addPlace 0 = .ok (.aload_n 0, 1) := by decide +kernel
theorem d_RuleText_addPlace_1 : decode c_RuleText_addPlace 1 = .ok (.getfield 44, 3) := by decide +kernel
theorem d_RuleText_addPlace_4 : decode c_RuleText_addPlace 4 = .ok (.aload_n 0, 1) := by decide +kernel
theorem d_RuleText_addPlace_5 : decode c_RuleText_addPlace 5 = .ok (.getfield 51, 3) := by decide +kernel
theorem d_RuleText_addPlace_8 : decode c_RuleText_addPlace 8 = .ok (.iload_n 1, 1) := by decide +kernel
theorem d_RuleText_addPlace_9 : decode c_RuleText_addPlace 9 = .ok (.iastore, 1) := by decide +kernel
theorem d_RuleText_addPlace_10 : decode c_RuleText_addPlace 10 = .ok (.aload_n 0, 1) := by decide +kernel
theorem d_RuleText_addPlace_11 : decode c_RuleText_addPlace 11 = .ok (.getfield 48, 3) := by decide +kernel
theorem d_RuleText_addPlace_14 : decode c_RuleText_addPlace 14 = .ok (.aload_n 0, 1) := by decide +kernel
theorem d_RuleText_addPlace_15 : decode c_RuleText_addPlace 15 = .ok (.getfield 51, 3) := by decide +kernel
theorem d_RuleText_addPlace_18 : decode c_RuleText_addPlace 18 = .ok (.iconst 0, 1) := by decide +kernel
theorem d_RuleText_addPlace_19 : decode c_RuleText_addPlace 19 = .ok (.iastore, 1) := by decide +kernel
theorem d_RuleText_addPlace_20 : decode c_RuleText_addPlace 20 = .ok (.iconst 1, 1) := by decide +kernel
theorem d_RuleText_addPlace_21 : decode c_RuleText_addPlace 21 = .ok (.aload_n 0, 1) := by decide +kernel
theorem d_RuleText_addPlace_22 : decode c_RuleText_addPlace 22 = .ok (.getfield 51, 3) := by decide +kernel
theorem d_RuleText_addPlace_25 : decode c_RuleText_addPlace 25 = .ok (.ishl, 1) := by decide +kernel
theorem d_RuleText_addPlace_26 : decode c_RuleText_addPlace 26 = .ok (.istore_n 2, 1) := by decide +kernel
theorem d_RuleText_addPlace_27 : decode c_RuleText_addPlace 27 = .ok (.aload_n 0, 1) := by decide +kernel
theorem d_RuleText_addPlace_28 : decode c_RuleText_addPlace 28 = .ok (.dup, 1) := by decide +kernel
theorem d_RuleText_addPlace_29 : decode c_RuleText_addPlace 29 = .ok (.getfield 51, 3) := by decide +kernel
theorem d_RuleText_addPlace_32 : decode c_RuleText_addPlace 32 = .ok (.iconst 1, 1) := by decide +kernel
theorem d_RuleText_addPlace_33 : decode c_RuleText_addPlace 33 = .ok (.iadd, 1) := by decide +kernel
theorem d_RuleText_addPlace_34 : decode c_RuleText_addPlace 34 = .ok (.putfield 51, 3) := by decide +kernel
theorem d_RuleText_addPlace_37 : decode c_RuleText_addPlace 37 = .ok (.aload_n 0, 1) := by decide +kernel
theorem d_RuleText_addPlace_38 : decode c_RuleText_addPlace 38 = .ok (.new 9, 3) := by decide +kernel
theorem d_RuleText_addPlace_41 : decode c_RuleText_addPlace 41 = .ok (.dup, 1) := by decide +kernel
theorem d_RuleText_addPlace_42 : decode c_RuleText_addPlace 42 = .ok (.iload_n 2, 1) := by decide +kernel
theorem d_RuleText_addPlace_43 : decode c_RuleText_addPlace 43 = .ok (.iload_n 2, 1) := by decide +kernel
theorem d_RuleText_addPlace_44 : decode c_RuleText_addPlace 44 = .ok (.iconst 0, 1) := by decide +kernel
theorem d_RuleText_addPlace_45 : decode c_RuleText_addPlace 45 = .ok (.invokespecial 11, 3) := by decide +kernel
theorem d_RuleText_addPlace_48 : decode c_RuleText_addPlace 48 = .ok (.invokevirtual 115, 3) := by decide +kernel
theorem d_RuleText_addPlace_51 : decode c_RuleText_addPlace 51 = .ok (.return_, 1) := by decide +kernel
theorem d_RuleText_putLetter_0 : decode c_RuleText_putLetter 0 = .ok (.iload_n 1, 1) := by decide +kernel
theorem d_RuleText_putLetter_1 : decode c_RuleText_putLetter 1 = .ok (.invokestatic 111, 3) := by decide +kernel
theorem d_RuleText_putLetter_4 : decode c_RuleText_putLetter 4 = .ok (.ifCond .ne 5, 3) := by decide +kernel
theorem d_RuleText_putLetter_7 : decode c_RuleText_putLetter 7 = .ok (.iconst 0, 1) := by decide +kernel
theorem d_RuleText_putLetter_8 : decode c_RuleText_putLetter 8 = .ok (.ireturn, 1) := by decide +kernel
theorem d_RuleText_putLetter_9 : decode c_RuleText_putLetter 9 = .ok (.aload_n 0, 1) := by decide +kernel
theorem d_RuleText_putLetter_10 : decode c_RuleText_putLetter 10 = .ok (.iconst 1, 1) := by decide +kernel
theorem d_RuleText_putLetter_11 : decode c_RuleText_putLetter 11 = .ok (.iload_n 1, 1) := by decide +kernel
theorem d_RuleText_putLetter_12 : decode c_RuleText_putLetter 12 = .ok (.ishl, 1) := by decide +kernel
theorem d_RuleText_putLetter_13 : decode c_RuleText_putLetter 13 = .ok (.invokevirtual 81, 3) := by decide +kernel
theorem d_RuleText_putLetter_16 : decode c_RuleText_putLetter 16 = .ok (.iconst 1, 1) := by decide +kernel
theorem d_RuleText_putLetter_17 : decode c_RuleText_putLetter 17 = .ok (.ireturn, 1) := by decide +kernel
theorem d_RuleText_openGroup_0 : decode c_RuleText_openGroup 0 = .ok (.aload_n 0, 1) := by decide +kernel
theorem d_RuleText_openGroup_1 : decode c_RuleText_openGroup 1 = .ok (.getfield 40, 3) := by decide +kernel
theorem d_RuleText_openGroup_4 : decode c_RuleText_openGroup 4 = .ok (.iconst 4, 1) := by decide +kernel
theorem d_RuleText_openGroup_5 : decode c_RuleText_openGroup 5 = .ok (.if_icmp .lt 5, 3) := by decide +kernel
theorem d_RuleText_openGroup_8 : decode c_RuleText_openGroup 8 = .ok (.iconst 0, 1) := by decide +kernel
theorem d_RuleText_openGroup_9 : decode c_RuleText_openGroup 9 = .ok (.ireturn, 1) := by decide +kernel
theorem d_RuleText_openGroup_10 : decode c_RuleText_openGroup 10 = .ok (.aload_n 0, 1) := by decide +kernel
theorem d_RuleText_openGroup_11 : decode c_RuleText_openGroup 11 = .ok (.aload_n 0, 1) := by decide +kernel
theorem d_RuleText_openGroup_12 : decode c_RuleText_openGroup 12 = .ok (.getfield 40, 3) := by decide +kernel
theorem d_RuleText_openGroup_15 : decode c_RuleText_openGroup 15 = .ok (.iconst 1, 1) := by decide +kernel
theorem d_RuleText_openGroup_16 : decode c_RuleText_openGroup 16 = .ok (.iadd, 1) := by decide +kernel
theorem d_RuleText_openGroup_17 : decode c_RuleText_openGroup 17 = .ok (.invokevirtual 57, 3) := by decide +kernel
theorem d_RuleText_openGroup_20 : decode c_RuleText_openGroup 20 = .ok (.iconst 1, 1) := by decide +kernel
theorem d_RuleText_openGroup_21 : decode c_RuleText_openGroup 21 = .ok (.ireturn, 1) := by decide +kernel
theorem d_RuleText_closeGroup_0 : decode c_RuleText_closeGroup 0 = .ok (.aload_n 0, 1) := by decide +kernel
theorem d_RuleText_closeGroup_1 : decode c_RuleText_closeGroup 1 = .ok (.getfield 40, 3) := by decide +kernel
theorem d_RuleText_closeGroup_4 : decode c_RuleText_closeGroup 4 = .ok (.ifCond .eq 10, 3) := by decide +kernel
theorem d_RuleText_closeGroup_7 : decode c_RuleText_closeGroup 7 = .ok (.aload_n 0, 1) := by decide +kernel
theorem d_RuleText_closeGroup_8 : decode c_RuleText_closeGroup 8 = .ok (.invokevirtual 72, 3) := by decide +kernel
theorem d_RuleText_closeGroup_11 : decode c_RuleText_closeGroup 11 = .ok (.ifCond .ne 5, 3) := by decide +kernel
theorem d_RuleText_closeGroup_14 : decode c_RuleText_closeGroup 14 = .ok (.iconst 0, 1) := by decide +kernel
theorem d_RuleText_closeGroup_15 : decode c_RuleText_closeGroup 15 = .ok (.ireturn, 1) := by decide +kernel
theorem d_RuleText_closeGroup_16 : decode c_RuleText_closeGroup 16 = .ok (.aload_n 0, 1) := by decide +kernel
theorem d_RuleText_closeGroup_17 : decode c_RuleText_closeGroup 17 = .ok (.dup, 1) := by decide +kernel
theorem d_RuleText_closeGroup_18 : decode c_RuleText_closeGroup 18 = .ok (.getfield 40, 3) := by decide +kernel
theorem d_RuleText_closeGroup_21 : decode c_RuleText_closeGroup 21 = .ok (.iconst 1, 1) := by decide +kernel
theorem d_RuleText_closeGroup_22 : decode c_RuleText_closeGroup 22 = .ok (.isub, 1) := by decide +kernel
theorem d_RuleText_closeGroup_23 : decode c_RuleText_closeGroup 23 = .ok (.putfield 40, 3) := by decide +kernel
theorem d_RuleText_closeGroup_26 : decode c_RuleText_closeGroup 26 = .ok (.aload_n 0, 1) := by decide +kernel
theorem d_RuleText_closeGroup_27 : decode c_RuleText_closeGroup 27 = .ok (.aload_n 0, 1) := by decide +kernel
theorem d_RuleText_closeGroup_28 : decode c_RuleText_closeGroup 28 = .ok (.getfield 30, 3) := by decide +kernel
theorem d_RuleText_closeGroup_31 : decode c_RuleText_closeGroup 31 = .ok (.aload_n 0, 1) := by decide +kernel
theorem d_RuleText_closeGroup_32 : decode c_RuleText_closeGroup 32 = .ok (.getfield 40, 3) := by decide +kernel
theorem d_RuleText_closeGroup_35 : decode c_RuleText_closeGroup 35 = .ok (.iconst 1, 1) := by decide +kernel
theorem d_RuleText_closeGroup_36 : decode c_RuleText_closeGroup 36 = .ok (.iadd, 1) := by decide +kernel
theorem d_RuleText_closeGroup_37 : decode c_RuleText_closeGroup 37 = .ok (.aaload, 1) := by decide +kernel
theorem d_RuleText_closeGroup_38 : decode c_RuleText_closeGroup 38 = .ok (.invokevirtual 115, 3) := by decide +kernel
theorem d_RuleText_closeGroup_41 : decode c_RuleText_closeGroup 41 = .ok (.iconst 1, 1) := by decide +kernel
theorem d_RuleText_closeGroup_42 : decode c_RuleText_closeGroup 42 = .ok (.ireturn, 1) := by decide +kernel
def p_RuleText_endSequence (w_o_emptyWord : Nat) (v_o_depth : Int32) (v_o_places : Int32) (f_o_parts : (Nat → Option Nat)) (f_o_sequences : (Nat → Option Nat)) (f_o_followers : (Nat → Int32)) (f_o_choices : (Nat → Option Nat)) (LP : (List Nat)) (PF : (Nat → Int32 × Int32 × Int32)) (post : Int32 → (Nat → Option Nat) → (Nat → Option Nat) → (Nat → Int32) → (Nat → Option Nat) → (List Nat) → (Nat → Int32 × Int32 × Int32) → Prop) : Prop := (vp_in v_o_depth 5 ∧ ((f_o_parts v_o_depth.toNatClampNeg = none → (post 0 f_o_parts f_o_sequences f_o_followers f_o_choices LP PF)) ∧ (∀ z1, f_o_parts v_o_depth.toNatClampNeg = some z1 → (p_RuleText_addPartN v_o_depth v_o_places f_o_parts f_o_sequences f_o_followers LP PF (fun u2 u3 u4 u5 u6 => (vp_in v_o_depth 5 ∧ ((f_o_choices v_o_depth.toNatClampNeg = none → False) ∧ (∀ z8, f_o_choices v_o_depth.toNatClampNeg = some z8 → (vp_in v_o_depth 5 ∧ ((u3 v_o_depth.toNatClampNeg = none → False) ∧ (∀ z10, u3 v_o_depth.toNatClampNeg = some z10 → (z8 ∈ u5 ∧ z10 ∈ u5 ∧ p_Piece_or (u6 z8).1 (u6 z8).2.1 (u6 z8).2.2 (u6 z10).1 (u6 z10).2.1 (u6 z10).2.2 (fun u12 u13 u14 => ∀ q11, q11 ∉ u5 → (vp_in v_o_depth 5 ∧ (q11 ∈ (u5 ++ [q11]) ∧ (vp_in v_o_depth 5 ∧ (w_o_emptyWord ∈ (u5 ++ [q11]) ∧ (post 1 u2 (va_up u3 v_o_depth.toNatClampNeg (some w_o_emptyWord)) u4 (va_up f_o_choices v_o_depth.toNatClampNeg (some q11)) (u5 ++ [q11]) (va_up u6 q11 (u12, u13, u14))))))))))))))))))))
set_option maxHeartbeats 4000000 in
set_option maxRecDepth 100000 in
theorem k_RuleText_endSequence (l : Launch) (G : va_G) (K : Nat → ClassId) (a0 a0_parts a0_sequences a0_followers a0_choices a0_set a0_letters : Nat) (sz : Nat) (w_o_noWord : Nat) (w_o_emptyWord : Nat) (v_o_depth : Int32) (v_o_places : Int32) (f_o_parts : (Nat → Option Nat)) (f_o_sequences : (Nat → Option Nat)) (f_o_followers : (Nat → Int32)) (f_o_choices : (Nat → Option Nat)) (LP : (List Nat)) (PF : (Nat → Int32 × Int32 × Int32)) (post : Int32 → (Nat → Option Nat) → (Nat → Option Nat) → (Nat → Int32) → (Nat → Option Nat) → (List Nat) → (Nat → Int32 × Int32 × Int32) → Prop) (h : p_RuleText_endSequence w_o_emptyWord v_o_depth v_o_places f_o_parts f_o_sequences f_o_followers f_o_choices LP PF post) : MWi l y_RuleText_endSequence (.code y_RuleText_endSequence c_RuleText_endSequence 1 (some .boolean)) { frames := 4, cells := 2, slots := 6, locals := 86 } G K ([(a0, .inr (9, [.ref w_o_noWord, .ref w_o_emptyWord, .ref a0_set, .ref a0_choices, .ref a0_sequences, .ref a0_parts, .int v_o_depth, .ref a0_letters, .ref a0_followers, .int v_o_places])), (a0_parts, .inl (K 2, 5, .inr (.inr (.inr (.inr f_o_parts))))), (a0_sequences, .inl (K 2, 5, .inr (.inr (.inr (.inr f_o_sequences))))), (a0_followers, .inl (K 0, 24, .inl f_o_followers)), (a0_choices, .inl (K 2, 5, .inr (.inr (.inr (.inr f_o_choices)))))] ++ va_pl LP (pcs PF)) [] [.ref a0] sz (fun r (u : (Nat → Option Nat) × (Nat → Option Nat) × (Nat → Int32) × (Nat → Option Nat) × (List Nat) × (Nat → Int32 × Int32 × Int32)) => post r u.1 u.2.1 u.2.2.1 u.2.2.2.1 u.2.2.2.2.1 u.2.2.2.2.2) (fun u => ([(a0, .inr (9, [.ref w_o_noWord, .ref w_o_emptyWord, .ref a0_set, .ref a0_choices, .ref a0_sequences, .ref a0_parts, .int v_o_depth, .ref a0_letters, .ref a0_followers, .int v_o_places])), (a0_parts, .inl (K 2, 5, .inr (.inr (.inr (.inr u.1))))), (a0_sequences, .inl (K 2, 5, .inr (.inr (.inr (.inr u.2.1))))), (a0_followers, .inl (K 0, 24, .inl u.2.2.1)), (a0_choices, .inl (K 2, 5, .inr (.inr (.inr (.inr u.2.2.2.1)))))] ++ va_pl u.2.2.2.2.1 (pcs u.2.2.2.2.2))) 2 6 := by
  refine g_metWi (cc := c_RuleText_endSequence) (maxL := 1) (ret := some .boolean) (rt := .boolean) (by decide) rfl rfl (Nat.le_of_ble_eq_true rfl) ?_
  intro p e s m below meth c A Q hx hb hml hown hname htg hK hN hP hD hA hS hR rN hret ls hl
  have hl : lv_has ls 1 [(0, .ref a0)] := hl
  refine lv_aload_n hx hb d_RuleText_endSequence_0 rfl (lv_at hl 0 rfl) ?_
  refine va_get (ci := 9) (v := .ref a0_parts) hx hb htg in_RuleText hown hK hP 0 rfl rfl 5 (by decide) (htg _ m_56) (fun _ h9 => h9) rfl d_RuleText_endSequence_1 ?_
  refine lv_aload_n hx hb d_RuleText_endSequence_4 rfl (lv_at hl 0 rfl) ?_
  refine va_get (ci := 9) (v := .int v_o_depth) hx hb htg in_RuleText hown hK hP 0 rfl rfl 6 (by decide) (htg _ m_57) (fun _ h9 => h9) rfl d_RuleText_endSequence_5 ?_
  obtain ⟨hin, h⟩ := h
  refine va_aldq hx hb hK hP 1 2 rfl rfl hin d_RuleText_endSequence_8 ?_
  rcases ho : f_o_parts v_o_depth.toNatClampNeg with _ | z1
  · replace h := h.1 ho
    refine W.eq (g2 := F0 m 9 ls [.null]) rfl ?_
    refine lv_ifnonnullN hx hb d_RuleText_endSequence_9 ?_
    refine lv_iconst (v := 0) hx hb d_RuleText_endSequence_12 (by decide) ?_
    refine W.widen (k := 2) (n := 6) (by decide) (by decide) ?_
    exact hret _ (f_o_parts, f_o_sequences, f_o_followers, f_o_choices, LP, PF) _ _ _ _ h (by decide +kernel) (hP.part [0, 1, 2, 3, 4] rfl) (hD.part [0, 1, 2, 3, 4] (by decide) rfl) hS d_RuleText_endSequence_13
  · replace h := h.2 z1 ho
    refine W.eq (g2 := F0 m 9 ls [.ref z1]) rfl ?_
    refine lv_ifnonnull (tgt := 14) hx hb d_RuleText_endSequence_9 (by decide) ?_
    refine lv_aload_n hx hb d_RuleText_endSequence_14 rfl (lv_at hl 0 rfl) ?_
    refine lv_null hx hb d_RuleText_endSequence_15 ?_
    have hPc : va_P G vwCl ([(a0, .inr (9, [.ref w_o_noWord, .ref w_o_emptyWord, .ref a0_set, .ref a0_choices, .ref a0_sequences, .ref a0_parts, .int v_o_depth, .ref a0_letters, .ref a0_followers, .int v_o_places])), (a0_parts, .inl (K 2, 5, .inr (.inr (.inr (.inr f_o_parts))))), (a0_sequences, .inl (K 2, 5, .inr (.inr (.inr (.inr f_o_sequences))))), (a0_followers, .inl (K 0, 24, .inl f_o_followers))] ++ va_pl LP (pcs PF)) _ := hP.part [0, 1, 2, 3] rfl
    have hDc : va_D A ([(a0, .inr (9, [.ref w_o_noWord, .ref w_o_emptyWord, .ref a0_set, .ref a0_choices, .ref a0_sequences, .ref a0_parts, .int v_o_depth, .ref a0_letters, .ref a0_followers, .int v_o_places])), (a0_parts, .inl (K 2, 5, .inr (.inr (.inr (.inr f_o_parts))))), (a0_sequences, .inl (K 2, 5, .inr (.inr (.inr (.inr f_o_sequences))))), (a0_followers, .inl (K 0, 24, .inl f_o_followers))] ++ va_pl LP (pcs PF)) := hD.part [0, 1, 2, 3] (by decide) rfl
    have hRc : va_P G vwCl [] _ := hP.sub [] rfl
    have hJc : gJ ([(a0, .inr (9, [.ref w_o_noWord, .ref w_o_emptyWord, .ref a0_set, .ref a0_choices, .ref a0_sequences, .ref a0_parts, .int v_o_depth, .ref a0_letters, .ref a0_followers, .int v_o_places])), (a0_parts, .inl (K 2, 5, .inr (.inr (.inr (.inr f_o_parts))))), (a0_sequences, .inl (K 2, 5, .inr (.inr (.inr (.inr f_o_sequences))))), (a0_followers, .inl (K 0, 24, .inl f_o_followers))] ++ va_pl LP (pcs PF)) [] := gJ_nil
    refine g_callvP (wr := [(a0_choices, .inl (K 2, 5, .inr (.inr (.inr (.inr f_o_choices)))))]) (va_runV (As := [.null]) (rest := []) ⟨hx, hb, hml, hown, htg⟩ (k_RuleText_addPartN l G K a0 a0_parts a0_sequences a0_followers a0_set a0_choices a0_letters _ w_o_noWord w_o_emptyWord v_o_depth v_o_places f_o_parts f_o_sequences f_o_followers LP PF _ h) (cwV 1 htg (gGoodV m_243 m_244 m_857 m_2 m_245) rfl rfl rfl (by decide +kernel) ⟨(Nat.le_of_ble_eq_true rfl), (Nat.le_of_ble_eq_true rfl)⟩) (gW_preV (ci := 9) (q0 := 0) hK hN hPc hDc hRc hJc hPc rfl rfl) rfl rfl hl.1 rfl (lv_room (Nat.le_of_ble_eq_true rfl)) d_RuleText_endSequence_16 ⟨(Nat.le_of_ble_eq_true rfl), (Nat.le_of_ble_eq_true rfl)⟩) hP hD hS hA [0, 1, 2, 3] [4] rfl rfl (by decide) (by decide) (fun u H locs h hP hD hS => ?_)
    obtain ⟨u2, u3, u4, u5, u6⟩ := u
    try dsimp only at h
    have hP : va_P G vwCl ([(a0_choices, .inl (K 2, 5, .inr (.inr (.inr (.inr f_o_choices))))), (a0, .inr (9, [.ref w_o_noWord, .ref w_o_emptyWord, .ref a0_set, .ref a0_choices, .ref a0_sequences, .ref a0_parts, .int v_o_depth, .ref a0_letters, .ref a0_followers, .int v_o_places])), (a0_parts, .inl (K 2, 5, .inr (.inr (.inr (.inr u2))))), (a0_sequences, .inl (K 2, 5, .inr (.inr (.inr (.inr u3))))), (a0_followers, .inl (K 0, 24, .inl u4))] ++ va_pl u5 (pcs u6)) H := hP
    have hD : va_D A ([(a0_choices, .inl (K 2, 5, .inr (.inr (.inr (.inr f_o_choices))))), (a0, .inr (9, [.ref w_o_noWord, .ref w_o_emptyWord, .ref a0_set, .ref a0_choices, .ref a0_sequences, .ref a0_parts, .int v_o_depth, .ref a0_letters, .ref a0_followers, .int v_o_places])), (a0_parts, .inl (K 2, 5, .inr (.inr (.inr (.inr u2))))), (a0_sequences, .inl (K 2, 5, .inr (.inr (.inr (.inr u3))))), (a0_followers, .inl (K 0, 24, .inl u4))] ++ va_pl u5 (pcs u6)) := hD
    refine lv_aload_n hx hb d_RuleText_endSequence_19 rfl (lv_at hl 0 rfl) ?_
    refine va_get (ci := 9) (v := .ref a0_choices) hx hb htg in_RuleText hown hK hP 1 rfl rfl 3 (by decide) (htg _ m_54) (fun _ h9 => h9) rfl d_RuleText_endSequence_20 ?_
    refine lv_aload_n hx hb d_RuleText_endSequence_23 rfl (lv_at hl 0 rfl) ?_
    refine va_get (ci := 9) (v := .int v_o_depth) hx hb htg in_RuleText hown hK hP 1 rfl rfl 6 (by decide) (htg _ m_57) (fun _ h9 => h9) rfl d_RuleText_endSequence_24 ?_
    refine lv_aload_n hx hb d_RuleText_endSequence_27 rfl (lv_at hl 0 rfl) ?_
    refine va_get (ci := 9) (v := .ref a0_choices) hx hb htg in_RuleText hown hK hP 1 rfl rfl 3 (by decide) (htg _ m_54) (fun _ h9 => h9) rfl d_RuleText_endSequence_28 ?_
    refine lv_aload_n hx hb d_RuleText_endSequence_31 rfl (lv_at hl 0 rfl) ?_
    refine va_get (ci := 9) (v := .int v_o_depth) hx hb htg in_RuleText hown hK hP 1 rfl rfl 6 (by decide) (htg _ m_57) (fun _ h9 => h9) rfl d_RuleText_endSequence_32 ?_
    obtain ⟨hin, h⟩ := h
    refine va_aldq hx hb hK hP 0 2 rfl rfl hin d_RuleText_endSequence_35 ?_
    rcases ho : f_o_choices v_o_depth.toNatClampNeg with _ | z8
    · replace h := h.1 ho
      refine W.eq (g2 := F0 m 36 ls [.null, .int v_o_depth, .ref a0_choices]) rfl ?_
      exact False.elim h
    · replace h := h.2 z8 ho
      refine W.eq (g2 := F0 m 36 ls [.ref z8, .int v_o_depth, .ref a0_choices]) rfl ?_
      refine lv_aload_n hx hb d_RuleText_endSequence_36 rfl (lv_at hl 0 rfl) ?_
      refine va_get (ci := 9) (v := .ref a0_sequences) hx hb htg in_RuleText hown hK hP 1 rfl rfl 4 (by decide) (htg _ m_55) (fun _ h9 => h9) rfl d_RuleText_endSequence_37 ?_
      refine lv_aload_n hx hb d_RuleText_endSequence_40 rfl (lv_at hl 0 rfl) ?_
      refine va_get (ci := 9) (v := .int v_o_depth) hx hb htg in_RuleText hown hK hP 1 rfl rfl 6 (by decide) (htg _ m_57) (fun _ h9 => h9) rfl d_RuleText_endSequence_41 ?_
      obtain ⟨hin, h⟩ := h
      refine va_aldq hx hb hK hP 3 2 rfl rfl hin d_RuleText_endSequence_44 ?_
      rcases ho : u3 v_o_depth.toNatClampNeg with _ | z10
      · replace h := h.1 ho
        refine W.eq (g2 := F0 m 45 ls [.null, .ref z8, .int v_o_depth, .ref a0_choices]) rfl ?_
        exact False.elim h
      · replace h := h.2 z10 ho
        refine W.eq (g2 := F0 m 45 ls [.ref z10, .ref z8, .int v_o_depth, .ref a0_choices]) rfl ?_
        obtain ⟨hm0, hm1, h⟩ := h
        have hRc : va_P G vwCl [(z8, pcs u6 z8), (z10, pcs u6 z10)] _ := gPl2 hP hm0 hm1
        refine g_callr0 (va_runV (As := [.ref z10]) (rest := [.int v_o_depth, .ref a0_choices]) ⟨hx, hb, hml, hown, htg⟩ (k_Piece_or l G K z8 z10 _ (u6 z8).1 (u6 z8).2.1 (u6 z8).2.2 (u6 z10).1 (u6 z10).2.1 (u6 z10).2.2 _ h) (cwV 1 htg (gGoodV m_278 m_279 m_280 m_3 m_281) rfl rfl rfl (by decide +kernel) ⟨(Nat.le_of_ble_eq_true rfl), (Nat.le_of_ble_eq_true rfl)⟩) (gW_preV (ci := 7) (q0 := 0) hK hN va_P_nil (va_D_nil (A := A)) hRc gJ_nil2 hRc rfl rfl) rfl rfl hl.1 rfl (lv_room (Nat.le_of_ble_eq_true rfl)) d_RuleText_endSequence_45 ⟨(Nat.le_of_ble_eq_true rfl), (Nat.le_of_ble_eq_true rfl)⟩) hP hD hS hA (fun u q11 H locs h hP hD hS => ?_)
        obtain ⟨u12, u13, u14⟩ := u
        try dsimp only at h
        have hq := va_pl_fresh2 hD
        replace h := h q11 hq
        have hP := g_pushP hq hP
        have hD := g_pushD hq hD
        have hP : va_P G vwCl ([(a0_choices, .inl (K 2, 5, .inr (.inr (.inr (.inr f_o_choices))))), (a0, .inr (9, [.ref w_o_noWord, .ref w_o_emptyWord, .ref a0_set, .ref a0_choices, .ref a0_sequences, .ref a0_parts, .int v_o_depth, .ref a0_letters, .ref a0_followers, .int v_o_places])), (a0_parts, .inl (K 2, 5, .inr (.inr (.inr (.inr u2))))), (a0_sequences, .inl (K 2, 5, .inr (.inr (.inr (.inr u3))))), (a0_followers, .inl (K 0, 24, .inl u4))] ++ va_pl (u5 ++ [q11]) (pcs (va_up u6 q11 (u12, u13, u14)))) H := hP
        have hD : va_D A ([(a0_choices, .inl (K 2, 5, .inr (.inr (.inr (.inr f_o_choices))))), (a0, .inr (9, [.ref w_o_noWord, .ref w_o_emptyWord, .ref a0_set, .ref a0_choices, .ref a0_sequences, .ref a0_parts, .int v_o_depth, .ref a0_letters, .ref a0_followers, .int v_o_places])), (a0_parts, .inl (K 2, 5, .inr (.inr (.inr (.inr u2))))), (a0_sequences, .inl (K 2, 5, .inr (.inr (.inr (.inr u3))))), (a0_followers, .inl (K 0, 24, .inl u4))] ++ va_pl (u5 ++ [q11]) (pcs (va_up u6 q11 (u12, u13, u14)))) := hD
        obtain ⟨hin, h⟩ := h
        obtain ⟨hm, h⟩ := h
        obtain ⟨k9, hk9⟩ := va_pl_get (X := [(a0_choices, .inl (K 2, 5, .inr (.inr (.inr (.inr f_o_choices))))), (a0, .inr (9, [.ref w_o_noWord, .ref w_o_emptyWord, .ref a0_set, .ref a0_choices, .ref a0_sequences, .ref a0_parts, .int v_o_depth, .ref a0_letters, .ref a0_followers, .int v_o_places])), (a0_parts, .inl (K 2, 5, .inr (.inr (.inr (.inr u2))))), (a0_sequences, .inl (K 2, 5, .inr (.inr (.inr (.inr u3))))), (a0_followers, .inl (K 0, 24, .inl u4))]) (f := pcs (va_up u6 q11 (u12, u13, u14))) hm
        refine va_astq hx hb hK hP hD hS 0 2 k9 7 rfl rfl hk9 rfl hin d_RuleText_endSequence_48 (fun H locs hP hD hS => ?_)
        have hP : va_P G vwCl ([(a0_choices, .inl (K 2, 5, .inr (.inr (.inr (.inr (va_up f_o_choices v_o_depth.toNatClampNeg (some q11))))))), (a0, .inr (9, [.ref w_o_noWord, .ref w_o_emptyWord, .ref a0_set, .ref a0_choices, .ref a0_sequences, .ref a0_parts, .int v_o_depth, .ref a0_letters, .ref a0_followers, .int v_o_places])), (a0_parts, .inl (K 2, 5, .inr (.inr (.inr (.inr u2))))), (a0_sequences, .inl (K 2, 5, .inr (.inr (.inr (.inr u3))))), (a0_followers, .inl (K 0, 24, .inl u4))] ++ va_pl (u5 ++ [q11]) (pcs (va_up u6 q11 (u12, u13, u14)))) H := hP
        have hD : va_D A ([(a0_choices, .inl (K 2, 5, .inr (.inr (.inr (.inr (va_up f_o_choices v_o_depth.toNatClampNeg (some q11))))))), (a0, .inr (9, [.ref w_o_noWord, .ref w_o_emptyWord, .ref a0_set, .ref a0_choices, .ref a0_sequences, .ref a0_parts, .int v_o_depth, .ref a0_letters, .ref a0_followers, .int v_o_places])), (a0_parts, .inl (K 2, 5, .inr (.inr (.inr (.inr u2))))), (a0_sequences, .inl (K 2, 5, .inr (.inr (.inr (.inr u3))))), (a0_followers, .inl (K 0, 24, .inl u4))] ++ va_pl (u5 ++ [q11]) (pcs (va_up u6 q11 (u12, u13, u14)))) := hD
        refine lv_aload_n hx hb d_RuleText_endSequence_49 rfl (lv_at hl 0 rfl) ?_
        refine va_get (ci := 9) (v := .ref a0_sequences) hx hb htg in_RuleText hown hK hP 1 rfl rfl 4 (by decide) (htg _ m_55) (fun _ h9 => h9) rfl d_RuleText_endSequence_50 ?_
        refine lv_aload_n hx hb d_RuleText_endSequence_53 rfl (lv_at hl 0 rfl) ?_
        refine va_get (ci := 9) (v := .int v_o_depth) hx hb htg in_RuleText hown hK hP 1 rfl rfl 6 (by decide) (htg _ m_57) (fun _ h9 => h9) rfl d_RuleText_endSequence_54 ?_
        refine lv_aload_n hx hb d_RuleText_endSequence_57 rfl (lv_at hl 0 rfl) ?_
        refine va_get (ci := 9) (v := .ref w_o_emptyWord) hx hb htg in_RuleText hown hK hP 1 rfl rfl 1 (by decide) (htg _ m_52) (fun _ h9 => h9) rfl d_RuleText_endSequence_58 ?_
        obtain ⟨hin, h⟩ := h
        obtain ⟨hm, h⟩ := h
        obtain ⟨k9, hk9⟩ := va_pl_get (X := [(a0_choices, .inl (K 2, 5, .inr (.inr (.inr (.inr (va_up f_o_choices v_o_depth.toNatClampNeg (some q11))))))), (a0, .inr (9, [.ref w_o_noWord, .ref w_o_emptyWord, .ref a0_set, .ref a0_choices, .ref a0_sequences, .ref a0_parts, .int v_o_depth, .ref a0_letters, .ref a0_followers, .int v_o_places])), (a0_parts, .inl (K 2, 5, .inr (.inr (.inr (.inr u2))))), (a0_sequences, .inl (K 2, 5, .inr (.inr (.inr (.inr u3))))), (a0_followers, .inl (K 0, 24, .inl u4))]) (f := pcs (va_up u6 q11 (u12, u13, u14))) hm
        refine va_astq hx hb hK hP hD hS 3 2 k9 7 rfl rfl hk9 rfl hin d_RuleText_endSequence_61 (fun H locs hP hD hS => ?_)
        have hP : va_P G vwCl ([(a0_choices, .inl (K 2, 5, .inr (.inr (.inr (.inr (va_up f_o_choices v_o_depth.toNatClampNeg (some q11))))))), (a0, .inr (9, [.ref w_o_noWord, .ref w_o_emptyWord, .ref a0_set, .ref a0_choices, .ref a0_sequences, .ref a0_parts, .int v_o_depth, .ref a0_letters, .ref a0_followers, .int v_o_places])), (a0_parts, .inl (K 2, 5, .inr (.inr (.inr (.inr u2))))), (a0_sequences, .inl (K 2, 5, .inr (.inr (.inr (.inr (va_up u3 v_o_depth.toNatClampNeg (some w_o_emptyWord))))))), (a0_followers, .inl (K 0, 24, .inl u4))] ++ va_pl (u5 ++ [q11]) (pcs (va_up u6 q11 (u12, u13, u14)))) H := hP
        have hD : va_D A ([(a0_choices, .inl (K 2, 5, .inr (.inr (.inr (.inr (va_up f_o_choices v_o_depth.toNatClampNeg (some q11))))))), (a0, .inr (9, [.ref w_o_noWord, .ref w_o_emptyWord, .ref a0_set, .ref a0_choices, .ref a0_sequences, .ref a0_parts, .int v_o_depth, .ref a0_letters, .ref a0_followers, .int v_o_places])), (a0_parts, .inl (K 2, 5, .inr (.inr (.inr (.inr u2))))), (a0_sequences, .inl (K 2, 5, .inr (.inr (.inr (.inr (va_up u3 v_o_depth.toNatClampNeg (some w_o_emptyWord))))))), (a0_followers, .inl (K 0, 24, .inl u4))] ++ va_pl (u5 ++ [q11]) (pcs (va_up u6 q11 (u12, u13, u14)))) := hD
        refine lv_iconst (v := 1) hx hb d_RuleText_endSequence_62 (by decide) ?_
        exact hret _ (u2, (va_up u3 v_o_depth.toNatClampNeg (some w_o_emptyWord)), u4, (va_up f_o_choices v_o_depth.toNatClampNeg (some q11)), (u5 ++ [q11]), (va_up u6 q11 (u12, u13, u14))) _ _ _ _ h (by decide +kernel) (hP.part [1, 2, 3, 4, 0] rfl) (hD.part [1, 2, 3, 4, 0] (by decide) rfl) hS d_RuleText_endSequence_63
def p_RuleText_repeatPart (v_o_depth : Int32) (v_o_places : Int32) (f_o_parts : (Nat → Option Nat)) (f_o_followers : (Nat → Int32)) (LP : (List Nat)) (PF : (Nat → Int32 × Int32 × Int32)) (x1 : Int32) (post : Int32 → (Nat → Option Nat) → (Nat → Int32) → (List Nat) → (Nat → Int32 × Int32 × Int32) → Prop) : Prop := (vp_in v_o_depth 5 ∧ ((f_o_parts v_o_depth.toNatClampNeg = none → (post 0 f_o_parts f_o_followers LP PF)) ∧ (∀ z1, f_o_parts v_o_depth.toNatClampNeg = some z1 → ((x1 = 63 → ((x1 = 43 → (post 1 f_o_parts f_o_followers LP PF)) ∧ (¬ x1 = 43 → (z1 ∈ LP ∧ p_Piece_orEmpty (PF z1).1 (PF z1).2.1 (fun u3 u4 u5 => ∀ q2, q2 ∉ LP → (vp_in v_o_depth 5 ∧ (q2 ∈ (LP ++ [q2]) ∧ (post 1 (va_up f_o_parts v_o_depth.toNatClampNeg (some q2)) f_o_followers (LP ++ [q2]) (va_up PF q2 (u3, u4, u5)))))))))) ∧ (¬ x1 = 63 → (z1 ∈ LP ∧ (z1 ∈ LP ∧ (p_RuleText_link v_o_places f_o_followers ((PF z1).2.1) ((PF z1).1) (fun u6 => ((x1 = 43 → (post 1 f_o_parts u6 LP PF)) ∧ (¬ x1 = 43 → (z1 ∈ LP ∧ p_Piece_orEmpty (PF z1).1 (PF z1).2.1 (fun u9 u10 u11 => ∀ q8, q8 ∉ LP → (vp_in v_o_depth 5 ∧ (q8 ∈ (LP ++ [q8]) ∧ (post 1 (va_up f_o_parts v_o_depth.toNatClampNeg (some q8)) u6 (LP ++ [q8]) (va_up PF q8 (u9, u10, u11))))))))))))))))))
set_option maxHeartbeats 4000000 in
set_option maxRecDepth 100000 in
theorem k_RuleText_repeatPart (l : Launch) (G : va_G) (K : Nat → ClassId) (a0 a0_parts a0_followers a0_set a0_choices a0_sequences a0_letters : Nat) (sz : Nat) (w_o_noWord : Nat) (w_o_emptyWord : Nat) (v_o_depth : Int32) (v_o_places : Int32) (f_o_parts : (Nat → Option Nat)) (f_o_followers : (Nat → Int32)) (LP : (List Nat)) (PF : (Nat → Int32 × Int32 × Int32)) (x1 : Int32) (post : Int32 → (Nat → Option Nat) → (Nat → Int32) → (List Nat) → (Nat → Int32 × Int32 × Int32) → Prop) (h : p_RuleText_repeatPart v_o_depth v_o_places f_o_parts f_o_followers LP PF x1 post) : MWi l y_RuleText_repeatPart (.code y_RuleText_repeatPart c_RuleText_repeatPart 3 (some .boolean)) { frames := 3, cells := 1, slots := 3, locals := 63 } G K ([(a0, .inr (9, [.ref w_o_noWord, .ref w_o_emptyWord, .ref a0_set, .ref a0_choices, .ref a0_sequences, .ref a0_parts, .int v_o_depth, .ref a0_letters, .ref a0_followers, .int v_o_places])), (a0_parts, .inl (K 2, 5, .inr (.inr (.inr (.inr f_o_parts))))), (a0_followers, .inl (K 0, 24, .inl f_o_followers))] ++ va_pl LP (pcs PF)) [] [.ref a0, .int x1] sz (fun r (u : (Nat → Option Nat) × (Nat → Int32) × (List Nat) × (Nat → Int32 × Int32 × Int32)) => post r u.1 u.2.1 u.2.2.1 u.2.2.2) (fun u => ([(a0, .inr (9, [.ref w_o_noWord, .ref w_o_emptyWord, .ref a0_set, .ref a0_choices, .ref a0_sequences, .ref a0_parts, .int v_o_depth, .ref a0_letters, .ref a0_followers, .int v_o_places])), (a0_parts, .inl (K 2, 5, .inr (.inr (.inr (.inr u.1))))), (a0_followers, .inl (K 0, 24, .inl u.2.1))] ++ va_pl u.2.2.1 (pcs u.2.2.2))) 1 3 := by
  refine g_metWi (cc := c_RuleText_repeatPart) (maxL := 3) (ret := some .boolean) (rt := .boolean) (by decide) rfl rfl (Nat.le_of_ble_eq_true rfl) ?_
  intro p e s m below meth c A Q hx hb hml hown hname htg hK hN hP hD hA hS hR rN hret ls hl
  have hl : lv_has ls 3 [(0, .ref a0), (1, .int x1)] := hl
  refine lv_aload_n hx hb d_RuleText_repeatPart_0 rfl (lv_at hl 0 rfl) ?_
  refine va_get (ci := 9) (v := .ref a0_parts) hx hb htg in_RuleText hown hK hP 0 rfl rfl 5 (by decide) (htg _ m_56) (fun _ h9 => h9) rfl d_RuleText_repeatPart_1 ?_
  refine lv_aload_n hx hb d_RuleText_repeatPart_4 rfl (lv_at hl 0 rfl) ?_
  refine va_get (ci := 9) (v := .int v_o_depth) hx hb htg in_RuleText hown hK hP 0 rfl rfl 6 (by decide) (htg _ m_57) (fun _ h9 => h9) rfl d_RuleText_repeatPart_5 ?_
  obtain ⟨hin, h⟩ := h
  refine va_aldq hx hb hK hP 1 2 rfl rfl hin d_RuleText_repeatPart_8 ?_
  rcases ho : f_o_parts v_o_depth.toNatClampNeg with _ | z1
  · replace h := h.1 ho
    refine W.eq (g2 := F0 m 9 ls [.null]) rfl ?_
    refine lv_astore_nN (lv' := [(2, .null), (0, .ref a0), (1, .int x1)]) hx hb d_RuleText_repeatPart_9 rfl hl (by decide) rfl (fun ls hl => ?_)
    refine lv_aload_nN hx hb d_RuleText_repeatPart_10 rfl (lv_at hl 0 rfl) ?_
    refine lv_ifnonnullN hx hb d_RuleText_repeatPart_11 ?_
    refine lv_iconst (v := 0) hx hb d_RuleText_repeatPart_14 (by decide) ?_
    refine W.widen (k := 1) (n := 3) (by decide) (by decide) ?_
    exact hret _ (f_o_parts, f_o_followers, LP, PF) _ _ _ _ h (by decide +kernel) (hP.part [0, 1, 2] rfl) (hD.part [0, 1, 2] (by decide) rfl) hS d_RuleText_repeatPart_15
  · replace h := h.2 z1 ho
    refine W.eq (g2 := F0 m 9 ls [.ref z1]) rfl ?_
    refine lv_astore_n (lv' := [(2, .ref z1), (0, .ref a0), (1, .int x1)]) hx hb d_RuleText_repeatPart_9 rfl hl (by decide) rfl (fun ls hl => ?_)
    refine lv_aload_n hx hb d_RuleText_repeatPart_10 rfl (lv_at hl 0 rfl) ?_
    refine lv_ifnonnull (tgt := 16) hx hb d_RuleText_repeatPart_11 (by decide) ?_
    refine lv_iload_n hx hb d_RuleText_repeatPart_16 rfl (lv_at hl 2 rfl) ?_
    refine lv_bipush (v := 63) hx hb d_RuleText_repeatPart_17 (by decide) ?_
    refine lv_icmp_eq (tgt := 34) hx hb d_RuleText_repeatPart_19 (by decide) (fun hc => ?_) (fun hc => ?_)
    · replace h := h.1 hc
      refine lv_iload_n hx hb d_RuleText_repeatPart_34 rfl (lv_at hl 2 rfl) ?_
      refine lv_bipush (v := 43) hx hb d_RuleText_repeatPart_35 (by decide) ?_
      refine lv_icmp_eq (tgt := 53) hx hb d_RuleText_repeatPart_37 (by decide) (fun hc => ?_) (fun hc => ?_)
      · replace h := h.1 hc
        refine lv_iconst (v := 1) hx hb d_RuleText_repeatPart_53 (by decide) ?_
        refine W.widen (k := 1) (n := 3) (by decide) (by decide) ?_
        exact hret _ (f_o_parts, f_o_followers, LP, PF) _ _ _ _ h (by decide +kernel) (hP.part [0, 1, 2] rfl) (hD.part [0, 1, 2] (by decide) rfl) hS d_RuleText_repeatPart_54
      · replace h := h.2 hc
        refine lv_aload_n hx hb d_RuleText_repeatPart_40 rfl (lv_at hl 1 rfl) ?_
        refine va_get (ci := 9) (v := .ref a0_parts) hx hb htg in_RuleText hown hK hP 0 rfl rfl 5 (by decide) (htg _ m_56) (fun _ h9 => h9) rfl d_RuleText_repeatPart_41 ?_
        refine lv_aload_n hx hb d_RuleText_repeatPart_44 rfl (lv_at hl 1 rfl) ?_
        refine va_get (ci := 9) (v := .int v_o_depth) hx hb htg in_RuleText hown hK hP 0 rfl rfl 6 (by decide) (htg _ m_57) (fun _ h9 => h9) rfl d_RuleText_repeatPart_45 ?_
        refine lv_aload_n hx hb d_RuleText_repeatPart_48 rfl (lv_at hl 0 rfl) ?_
        obtain ⟨hm0, h⟩ := h
        have hRc : va_P G vwCl [(z1, pcs PF z1)] _ := gPl1 hP hm0
        refine g_callr0 (va_runV (As := []) (rest := [.int v_o_depth, .ref a0_parts]) ⟨hx, hb, hml, hown, htg⟩ (k_Piece_orEmpty l G K z1 _ (PF z1).1 (PF z1).2.1 (PF z1).2.2 _ h) (cwV 0 htg (gGoodV m_285 m_286 m_287 m_3 m_288) rfl rfl rfl (by decide +kernel) ⟨(Nat.le_of_ble_eq_true rfl), (Nat.le_of_ble_eq_true rfl)⟩) (gW_preV (ci := 7) (q0 := 0) hK hN va_P_nil (va_D_nil (A := A)) hRc gJ_nil2 hRc rfl rfl) rfl rfl hl.1 rfl (lv_room (Nat.le_of_ble_eq_true rfl)) d_RuleText_repeatPart_49 ⟨(Nat.le_of_ble_eq_true rfl), (Nat.le_of_ble_eq_true rfl)⟩) hP hD hS hA (fun u q2 H locs h hP hD hS => ?_)
        obtain ⟨u3, u4, u5⟩ := u
        try dsimp only at h
        have hq := va_pl_fresh2 hD
        replace h := h q2 hq
        have hP := g_pushP hq hP
        have hD := g_pushD hq hD
        have hP : va_P G vwCl ([(a0, .inr (9, [.ref w_o_noWord, .ref w_o_emptyWord, .ref a0_set, .ref a0_choices, .ref a0_sequences, .ref a0_parts, .int v_o_depth, .ref a0_letters, .ref a0_followers, .int v_o_places])), (a0_parts, .inl (K 2, 5, .inr (.inr (.inr (.inr f_o_parts))))), (a0_followers, .inl (K 0, 24, .inl f_o_followers))] ++ va_pl (LP ++ [q2]) (pcs (va_up PF q2 (u3, u4, u5)))) H := hP
        have hD : va_D A ([(a0, .inr (9, [.ref w_o_noWord, .ref w_o_emptyWord, .ref a0_set, .ref a0_choices, .ref a0_sequences, .ref a0_parts, .int v_o_depth, .ref a0_letters, .ref a0_followers, .int v_o_places])), (a0_parts, .inl (K 2, 5, .inr (.inr (.inr (.inr f_o_parts))))), (a0_followers, .inl (K 0, 24, .inl f_o_followers))] ++ va_pl (LP ++ [q2]) (pcs (va_up PF q2 (u3, u4, u5)))) := hD
        obtain ⟨hin, h⟩ := h
        obtain ⟨hm, h⟩ := h
        obtain ⟨k9, hk9⟩ := va_pl_get (X := [(a0, .inr (9, [.ref w_o_noWord, .ref w_o_emptyWord, .ref a0_set, .ref a0_choices, .ref a0_sequences, .ref a0_parts, .int v_o_depth, .ref a0_letters, .ref a0_followers, .int v_o_places])), (a0_parts, .inl (K 2, 5, .inr (.inr (.inr (.inr f_o_parts))))), (a0_followers, .inl (K 0, 24, .inl f_o_followers))]) (f := pcs (va_up PF q2 (u3, u4, u5))) hm
        refine va_astq hx hb hK hP hD hS 1 2 k9 7 rfl rfl hk9 rfl hin d_RuleText_repeatPart_52 (fun H locs hP hD hS => ?_)
        have hP : va_P G vwCl ([(a0, .inr (9, [.ref w_o_noWord, .ref w_o_emptyWord, .ref a0_set, .ref a0_choices, .ref a0_sequences, .ref a0_parts, .int v_o_depth, .ref a0_letters, .ref a0_followers, .int v_o_places])), (a0_parts, .inl (K 2, 5, .inr (.inr (.inr (.inr (va_up f_o_parts v_o_depth.toNatClampNeg (some q2))))))), (a0_followers, .inl (K 0, 24, .inl f_o_followers))] ++ va_pl (LP ++ [q2]) (pcs (va_up PF q2 (u3, u4, u5)))) H := hP
        have hD : va_D A ([(a0, .inr (9, [.ref w_o_noWord, .ref w_o_emptyWord, .ref a0_set, .ref a0_choices, .ref a0_sequences, .ref a0_parts, .int v_o_depth, .ref a0_letters, .ref a0_followers, .int v_o_places])), (a0_parts, .inl (K 2, 5, .inr (.inr (.inr (.inr (va_up f_o_parts v_o_depth.toNatClampNeg (some q2))))))), (a0_followers, .inl (K 0, 24, .inl f_o_followers))] ++ va_pl (LP ++ [q2]) (pcs (va_up PF q2 (u3, u4, u5)))) := hD
        refine lv_iconst (v := 1) hx hb d_RuleText_repeatPart_53 (by decide) ?_
        exact hret _ ((va_up f_o_parts v_o_depth.toNatClampNeg (some q2)), f_o_followers, (LP ++ [q2]), (va_up PF q2 (u3, u4, u5))) _ _ _ _ h (by decide +kernel) (hP.part [0, 1, 2] rfl) (hD.part [0, 1, 2] (by decide) rfl) hS d_RuleText_repeatPart_54
    · replace h := h.2 hc
      refine lv_aload_n hx hb d_RuleText_repeatPart_22 rfl (lv_at hl 1 rfl) ?_
      refine lv_aload_n hx hb d_RuleText_repeatPart_23 rfl (lv_at hl 0 rfl) ?_
      obtain ⟨hm, h⟩ := h
      obtain ⟨k9, hk9⟩ := va_pl_get (X := [(a0, .inr (9, [.ref w_o_noWord, .ref w_o_emptyWord, .ref a0_set, .ref a0_choices, .ref a0_sequences, .ref a0_parts, .int v_o_depth, .ref a0_letters, .ref a0_followers, .int v_o_places])), (a0_parts, .inl (K 2, 5, .inr (.inr (.inr (.inr f_o_parts))))), (a0_followers, .inl (K 0, 24, .inl f_o_followers))]) (f := pcs PF) hm
      refine va_getN (ci := 7) (v := .int ((PF z1).2.1)) hx hb htg in_Piece hown hK hP k9 hk9 rfl 1 (by decide) (va_Nw.use rfl (hN.1 (.fieldLinkNest "TokenBench$RuleText" 78 "TokenBench$Piece" "last" "I" "TokenBench") (by decide +kernel))) (fun _ h9 => h9) rfl d_RuleText_repeatPart_24 ?_
      refine lv_aload_n hx hb d_RuleText_repeatPart_27 rfl (lv_at hl 0 rfl) ?_
      obtain ⟨hm, h⟩ := h
      obtain ⟨k9, hk9⟩ := va_pl_get (X := [(a0, .inr (9, [.ref w_o_noWord, .ref w_o_emptyWord, .ref a0_set, .ref a0_choices, .ref a0_sequences, .ref a0_parts, .int v_o_depth, .ref a0_letters, .ref a0_followers, .int v_o_places])), (a0_parts, .inl (K 2, 5, .inr (.inr (.inr (.inr f_o_parts))))), (a0_followers, .inl (K 0, 24, .inl f_o_followers))]) (f := pcs PF) hm
      refine va_getN (ci := 7) (v := .int ((PF z1).1)) hx hb htg in_Piece hown hK hP k9 hk9 rfl 0 (by decide) (va_Nw.use rfl (hN.1 (.fieldLinkNest "TokenBench$RuleText" 75 "TokenBench$Piece" "first" "I" "TokenBench") (by decide +kernel))) (fun _ h9 => h9) rfl d_RuleText_repeatPart_28 ?_
      have hPc : va_P G vwCl [(a0_followers, .inl (K 0, 24, .inl f_o_followers))] _ := hP.sub [2] rfl
      have hDc : va_D A [(a0_followers, .inl (K 0, 24, .inl f_o_followers))] := hD.sub [2] (by decide) rfl
      have hRc : va_P G vwCl [(a0, .inr (9, [.ref w_o_noWord, .ref w_o_emptyWord, .ref a0_set, .ref a0_choices, .ref a0_sequences, .ref a0_parts, .int v_o_depth, .ref a0_letters, .ref a0_followers, .int v_o_places]))] _ := hP.sub [0] rfl
      have hJc : gJ [(a0_followers, .inl (K 0, 24, .inl f_o_followers))] [(a0, .inr (9, [.ref w_o_noWord, .ref w_o_emptyWord, .ref a0_set, .ref a0_choices, .ref a0_sequences, .ref a0_parts, .int v_o_depth, .ref a0_letters, .ref a0_followers, .int v_o_places]))] := gJ_sub hD rN [2] [0] rfl rfl (by decide)
      refine g_callvQ (wr := [(a0, .inr (9, [.ref w_o_noWord, .ref w_o_emptyWord, .ref a0_set, .ref a0_choices, .ref a0_sequences, .ref a0_parts, .int v_o_depth, .ref a0_letters, .ref a0_followers, .int v_o_places])), (a0_parts, .inl (K 2, 5, .inr (.inr (.inr (.inr f_o_parts)))))]) (va_runV (As := [.int ((PF z1).2.1), .int ((PF z1).1)]) (rest := []) ⟨hx, hb, hml, hown, htg⟩ (k_RuleText_link l G K a0 a0_followers a0_set a0_choices a0_sequences a0_parts a0_letters _ w_o_noWord w_o_emptyWord v_o_depth v_o_places f_o_followers ((PF z1).2.1) ((PF z1).1) _ h) (cwV 2 htg (gGoodV m_246 m_247 m_863 m_2 m_248) rfl rfl rfl (by decide +kernel) ⟨(Nat.le_of_ble_eq_true rfl), (Nat.le_of_ble_eq_true rfl)⟩) (gW_preV (ci := 9) (q0 := 0) hK hN hPc hDc hRc hJc hRc rfl rfl) rfl rfl hl.1 rfl (lv_room (Nat.le_of_ble_eq_true rfl)) d_RuleText_repeatPart_31 ⟨(Nat.le_of_ble_eq_true rfl), (Nat.le_of_ble_eq_true rfl)⟩) hP hD hS hA [2] [0, 1] rfl rfl (by decide) (by decide) (fun u H locs h hP hD hS => ?_)
      obtain ⟨u6, rfl⟩ : ∃ z, z = u := ⟨_, rfl⟩
      try dsimp only at h
      have hP : va_P G vwCl ([(a0, .inr (9, [.ref w_o_noWord, .ref w_o_emptyWord, .ref a0_set, .ref a0_choices, .ref a0_sequences, .ref a0_parts, .int v_o_depth, .ref a0_letters, .ref a0_followers, .int v_o_places])), (a0_parts, .inl (K 2, 5, .inr (.inr (.inr (.inr f_o_parts))))), (a0_followers, .inl (K 0, 24, .inl u6))] ++ va_pl LP (pcs PF)) H := hP
      have hD : va_D A ([(a0, .inr (9, [.ref w_o_noWord, .ref w_o_emptyWord, .ref a0_set, .ref a0_choices, .ref a0_sequences, .ref a0_parts, .int v_o_depth, .ref a0_letters, .ref a0_followers, .int v_o_places])), (a0_parts, .inl (K 2, 5, .inr (.inr (.inr (.inr f_o_parts))))), (a0_followers, .inl (K 0, 24, .inl u6))] ++ va_pl LP (pcs PF)) := hD
      refine lv_iload_n hx hb d_RuleText_repeatPart_34 rfl (lv_at hl 2 rfl) ?_
      refine lv_bipush (v := 43) hx hb d_RuleText_repeatPart_35 (by decide) ?_
      refine lv_icmp_eq (tgt := 53) hx hb d_RuleText_repeatPart_37 (by decide) (fun hc => ?_) (fun hc => ?_)
      · replace h := h.1 hc
        refine lv_iconst (v := 1) hx hb d_RuleText_repeatPart_53 (by decide) ?_
        refine W.widen (k := 1) (n := 3) (by decide) (by decide) ?_
        exact hret _ (f_o_parts, u6, LP, PF) _ _ _ _ h (by decide +kernel) (hP.part [0, 1, 2] rfl) (hD.part [0, 1, 2] (by decide) rfl) hS d_RuleText_repeatPart_54
      · replace h := h.2 hc
        refine lv_aload_n hx hb d_RuleText_repeatPart_40 rfl (lv_at hl 1 rfl) ?_
        refine va_get (ci := 9) (v := .ref a0_parts) hx hb htg in_RuleText hown hK hP 0 rfl rfl 5 (by decide) (htg _ m_56) (fun _ h9 => h9) rfl d_RuleText_repeatPart_41 ?_
        refine lv_aload_n hx hb d_RuleText_repeatPart_44 rfl (lv_at hl 1 rfl) ?_
        refine va_get (ci := 9) (v := .int v_o_depth) hx hb htg in_RuleText hown hK hP 0 rfl rfl 6 (by decide) (htg _ m_57) (fun _ h9 => h9) rfl d_RuleText_repeatPart_45 ?_
        refine lv_aload_n hx hb d_RuleText_repeatPart_48 rfl (lv_at hl 0 rfl) ?_
        obtain ⟨hm0, h⟩ := h
        have hRc : va_P G vwCl [(z1, pcs PF z1)] _ := gPl1 hP hm0
        refine g_callr0 (va_runV (As := []) (rest := [.int v_o_depth, .ref a0_parts]) ⟨hx, hb, hml, hown, htg⟩ (k_Piece_orEmpty l G K z1 _ (PF z1).1 (PF z1).2.1 (PF z1).2.2 _ h) (cwV 0 htg (gGoodV m_285 m_286 m_287 m_3 m_288) rfl rfl rfl (by decide +kernel) ⟨(Nat.le_of_ble_eq_true rfl), (Nat.le_of_ble_eq_true rfl)⟩) (gW_preV (ci := 7) (q0 := 0) hK hN va_P_nil (va_D_nil (A := A)) hRc gJ_nil2 hRc rfl rfl) rfl rfl hl.1 rfl (lv_room (Nat.le_of_ble_eq_true rfl)) d_RuleText_repeatPart_49 ⟨(Nat.le_of_ble_eq_true rfl), (Nat.le_of_ble_eq_true rfl)⟩) hP hD hS hA (fun u q8 H locs h hP hD hS => ?_)
        obtain ⟨u9, u10, u11⟩ := u
        try dsimp only at h
        have hq := va_pl_fresh2 hD
        replace h := h q8 hq
        have hP := g_pushP hq hP
        have hD := g_pushD hq hD
        have hP : va_P G vwCl ([(a0, .inr (9, [.ref w_o_noWord, .ref w_o_emptyWord, .ref a0_set, .ref a0_choices, .ref a0_sequences, .ref a0_parts, .int v_o_depth, .ref a0_letters, .ref a0_followers, .int v_o_places])), (a0_parts, .inl (K 2, 5, .inr (.inr (.inr (.inr f_o_parts))))), (a0_followers, .inl (K 0, 24, .inl u6))] ++ va_pl (LP ++ [q8]) (pcs (va_up PF q8 (u9, u10, u11)))) H := hP
        have hD : va_D A ([(a0, .inr (9, [.ref w_o_noWord, .ref w_o_emptyWord, .ref a0_set, .ref a0_choices, .ref a0_sequences, .ref a0_parts, .int v_o_depth, .ref a0_letters, .ref a0_followers, .int v_o_places])), (a0_parts, .inl (K 2, 5, .inr (.inr (.inr (.inr f_o_parts))))), (a0_followers, .inl (K 0, 24, .inl u6))] ++ va_pl (LP ++ [q8]) (pcs (va_up PF q8 (u9, u10, u11)))) := hD
        obtain ⟨hin, h⟩ := h
        obtain ⟨hm, h⟩ := h
        obtain ⟨k9, hk9⟩ := va_pl_get (X := [(a0, .inr (9, [.ref w_o_noWord, .ref w_o_emptyWord, .ref a0_set, .ref a0_choices, .ref a0_sequences, .ref a0_parts, .int v_o_depth, .ref a0_letters, .ref a0_followers, .int v_o_places])), (a0_parts, .inl (K 2, 5, .inr (.inr (.inr (.inr f_o_parts))))), (a0_followers, .inl (K 0, 24, .inl u6))]) (f := pcs (va_up PF q8 (u9, u10, u11))) hm
        refine va_astq hx hb hK hP hD hS 1 2 k9 7 rfl rfl hk9 rfl hin d_RuleText_repeatPart_52 (fun H locs hP hD hS => ?_)
        have hP : va_P G vwCl ([(a0, .inr (9, [.ref w_o_noWord, .ref w_o_emptyWord, .ref a0_set, .ref a0_choices, .ref a0_sequences, .ref a0_parts, .int v_o_depth, .ref a0_letters, .ref a0_followers, .int v_o_places])), (a0_parts, .inl (K 2, 5, .inr (.inr (.inr (.inr (va_up f_o_parts v_o_depth.toNatClampNeg (some q8))))))), (a0_followers, .inl (K 0, 24, .inl u6))] ++ va_pl (LP ++ [q8]) (pcs (va_up PF q8 (u9, u10, u11)))) H := hP
        have hD : va_D A ([(a0, .inr (9, [.ref w_o_noWord, .ref w_o_emptyWord, .ref a0_set, .ref a0_choices, .ref a0_sequences, .ref a0_parts, .int v_o_depth, .ref a0_letters, .ref a0_followers, .int v_o_places])), (a0_parts, .inl (K 2, 5, .inr (.inr (.inr (.inr (va_up f_o_parts v_o_depth.toNatClampNeg (some q8))))))), (a0_followers, .inl (K 0, 24, .inl u6))] ++ va_pl (LP ++ [q8]) (pcs (va_up PF q8 (u9, u10, u11)))) := hD
        refine lv_iconst (v := 1) hx hb d_RuleText_repeatPart_53 (by decide) ?_
        exact hret _ ((va_up f_o_parts v_o_depth.toNatClampNeg (some q8)), u6, (LP ++ [q8]), (va_up PF q8 (u9, u10, u11))) _ _ _ _ h (by decide +kernel) (hP.part [0, 1, 2] rfl) (hD.part [0, 1, 2] (by decide) rfl) hS d_RuleText_repeatPart_54
def p_RuleText_addPlace (v_o_depth : Int32) (v_o_places : Int32) (f_o_letters : (Nat → Int32)) (f_o_followers : (Nat → Int32)) (f_o_parts : (Nat → Option Nat)) (f_o_sequences : (Nat → Option Nat)) (LP : (List Nat)) (PF : (Nat → Int32 × Int32 × Int32)) (x1 : Int32) (post : Int32 → (Nat → Int32) → (Nat → Int32) → (Nat → Option Nat) → (Nat → Option Nat) → (List Nat) → (Nat → Int32 × Int32 × Int32) → Prop) : Prop := (vp_in v_o_places 24 ∧ (vp_in v_o_places 24 ∧ (p_Piece_init ((1 : Int32) <<< (v_o_places &&& 31)) ((1 : Int32) <<< (v_o_places &&& 31)) 0 (fun u2 u3 u4 => (∀ q1, q1 ∉ LP → (p_RuleText_addPart v_o_depth (v_o_places + 1) f_o_parts f_o_sequences (upd f_o_followers v_o_places.toNatClampNeg 0) (LP ++ [q1]) (va_up PF q1 (u2, u3, u4)) q1 (fun u6 u7 u8 u9 u10 => (post (v_o_places + 1) (upd f_o_letters v_o_places.toNatClampNeg x1) u8 u6 u7 u9 u10))))))))
set_option maxHeartbeats 4000000 in
set_option maxRecDepth 100000 in
theorem k_RuleText_addPlace (l : Launch) (G : va_G) (K : Nat → ClassId) (a0 a0_letters a0_followers a0_parts a0_sequences a0_set a0_choices : Nat) (sz : Nat) (w_o_noWord : Nat) (w_o_emptyWord : Nat) (v_o_depth : Int32) (v_o_places : Int32) (f_o_letters : (Nat → Int32)) (f_o_followers : (Nat → Int32)) (f_o_parts : (Nat → Option Nat)) (f_o_sequences : (Nat → Option Nat)) (LP : (List Nat)) (PF : (Nat → Int32 × Int32 × Int32)) (x1 : Int32) (post : Int32 → (Nat → Int32) → (Nat → Int32) → (Nat → Option Nat) → (Nat → Option Nat) → (List Nat) → (Nat → Int32 × Int32 × Int32) → Prop) (h : p_RuleText_addPlace v_o_depth v_o_places f_o_letters f_o_followers f_o_parts f_o_sequences LP PF x1 post) : MWv l y_RuleText_addPlace (.code y_RuleText_addPlace c_RuleText_addPlace 3 none) { frames := 4, cells := 2, slots := 6, locals := 86 } G K ([(a0, .inr (9, [.ref w_o_noWord, .ref w_o_emptyWord, .ref a0_set, .ref a0_choices, .ref a0_sequences, .ref a0_parts, .int v_o_depth, .ref a0_letters, .ref a0_followers, .int v_o_places])), (a0_letters, .inl (K 0, 24, .inl f_o_letters)), (a0_followers, .inl (K 0, 24, .inl f_o_followers)), (a0_parts, .inl (K 2, 5, .inr (.inr (.inr (.inr f_o_parts))))), (a0_sequences, .inl (K 2, 5, .inr (.inr (.inr (.inr f_o_sequences)))))] ++ va_pl LP (pcs PF)) [] [.ref a0, .int x1] sz (fun (u : Int32 × (Nat → Int32) × (Nat → Int32) × (Nat → Option Nat) × (Nat → Option Nat) × (List Nat) × (Nat → Int32 × Int32 × Int32)) => post u.1 u.2.1 u.2.2.1 u.2.2.2.1 u.2.2.2.2.1 u.2.2.2.2.2.1 u.2.2.2.2.2.2) (fun u => ([(a0, .inr (9, [.ref w_o_noWord, .ref w_o_emptyWord, .ref a0_set, .ref a0_choices, .ref a0_sequences, .ref a0_parts, .int v_o_depth, .ref a0_letters, .ref a0_followers, .int u.1])), (a0_letters, .inl (K 0, 24, .inl u.2.1)), (a0_followers, .inl (K 0, 24, .inl u.2.2.1)), (a0_parts, .inl (K 2, 5, .inr (.inr (.inr (.inr u.2.2.2.1))))), (a0_sequences, .inl (K 2, 5, .inr (.inr (.inr (.inr u.2.2.2.2.1)))))] ++ va_pl u.2.2.2.2.2.1 (pcs u.2.2.2.2.2.2))) 2 6 := by
  refine g_metWv (cc := c_RuleText_addPlace) (maxL := 3) (ret := none) (by decide) rfl rfl (Nat.le_of_ble_eq_true rfl) ?_
  intro p e s m below meth c A Q hx hb hml hown hname htg hK hN hP hD hA hS hR rN hret ls hl
  have hl : lv_has ls 3 [(0, .ref a0), (1, .int x1)] := hl
  refine lv_aload_n hx hb d_RuleText_addPlace_0 rfl (lv_at hl 0 rfl) ?_
  refine va_get (ci := 9) (v := .ref a0_letters) hx hb htg in_RuleText hown hK hP 0 rfl rfl 7 (by decide) (htg _ m_58) (fun _ h9 => h9) rfl d_RuleText_addPlace_1 ?_
  refine lv_aload_n hx hb d_RuleText_addPlace_4 rfl (lv_at hl 0 rfl) ?_
  refine va_get (ci := 9) (v := .int v_o_places) hx hb htg in_RuleText hown hK hP 0 rfl rfl 9 (by decide) (htg _ m_60) (fun _ h9 => h9) rfl d_RuleText_addPlace_5 ?_
  refine lv_iload_n hx hb d_RuleText_addPlace_8 rfl (lv_at hl 1 rfl) ?_
  obtain ⟨hin, h⟩ := h
  refine va_iast hx hb hK hP hD hS 1 0 rfl rfl hin d_RuleText_addPlace_9 (fun H locs hP hD hS => ?_)
  have hP : va_P G vwCl ([(a0, .inr (9, [.ref w_o_noWord, .ref w_o_emptyWord, .ref a0_set, .ref a0_choices, .ref a0_sequences, .ref a0_parts, .int v_o_depth, .ref a0_letters, .ref a0_followers, .int v_o_places])), (a0_letters, .inl (K 0, 24, .inl (upd f_o_letters v_o_places.toNatClampNeg x1))), (a0_followers, .inl (K 0, 24, .inl f_o_followers)), (a0_parts, .inl (K 2, 5, .inr (.inr (.inr (.inr f_o_parts))))), (a0_sequences, .inl (K 2, 5, .inr (.inr (.inr (.inr f_o_sequences)))))] ++ va_pl LP (pcs PF)) H := hP
  have hD : va_D A ([(a0, .inr (9, [.ref w_o_noWord, .ref w_o_emptyWord, .ref a0_set, .ref a0_choices, .ref a0_sequences, .ref a0_parts, .int v_o_depth, .ref a0_letters, .ref a0_followers, .int v_o_places])), (a0_letters, .inl (K 0, 24, .inl (upd f_o_letters v_o_places.toNatClampNeg x1))), (a0_followers, .inl (K 0, 24, .inl f_o_followers)), (a0_parts, .inl (K 2, 5, .inr (.inr (.inr (.inr f_o_parts))))), (a0_sequences, .inl (K 2, 5, .inr (.inr (.inr (.inr f_o_sequences)))))] ++ va_pl LP (pcs PF)) := hD
  refine lv_aload_n hx hb d_RuleText_addPlace_10 rfl (lv_at hl 0 rfl) ?_
  refine va_get (ci := 9) (v := .ref a0_followers) hx hb htg in_RuleText hown hK hP 0 rfl rfl 8 (by decide) (htg _ m_59) (fun _ h9 => h9) rfl d_RuleText_addPlace_11 ?_
  refine lv_aload_n hx hb d_RuleText_addPlace_14 rfl (lv_at hl 0 rfl) ?_
  refine va_get (ci := 9) (v := .int v_o_places) hx hb htg in_RuleText hown hK hP 0 rfl rfl 9 (by decide) (htg _ m_60) (fun _ h9 => h9) rfl d_RuleText_addPlace_15 ?_
  refine lv_iconst (v := 0) hx hb d_RuleText_addPlace_18 (by decide) ?_
  obtain ⟨hin, h⟩ := h
  refine va_iast hx hb hK hP hD hS 2 0 rfl rfl hin d_RuleText_addPlace_19 (fun H locs hP hD hS => ?_)
  have hP : va_P G vwCl ([(a0, .inr (9, [.ref w_o_noWord, .ref w_o_emptyWord, .ref a0_set, .ref a0_choices, .ref a0_sequences, .ref a0_parts, .int v_o_depth, .ref a0_letters, .ref a0_followers, .int v_o_places])), (a0_letters, .inl (K 0, 24, .inl (upd f_o_letters v_o_places.toNatClampNeg x1))), (a0_followers, .inl (K 0, 24, .inl (upd f_o_followers v_o_places.toNatClampNeg 0))), (a0_parts, .inl (K 2, 5, .inr (.inr (.inr (.inr f_o_parts))))), (a0_sequences, .inl (K 2, 5, .inr (.inr (.inr (.inr f_o_sequences)))))] ++ va_pl LP (pcs PF)) H := hP
  have hD : va_D A ([(a0, .inr (9, [.ref w_o_noWord, .ref w_o_emptyWord, .ref a0_set, .ref a0_choices, .ref a0_sequences, .ref a0_parts, .int v_o_depth, .ref a0_letters, .ref a0_followers, .int v_o_places])), (a0_letters, .inl (K 0, 24, .inl (upd f_o_letters v_o_places.toNatClampNeg x1))), (a0_followers, .inl (K 0, 24, .inl (upd f_o_followers v_o_places.toNatClampNeg 0))), (a0_parts, .inl (K 2, 5, .inr (.inr (.inr (.inr f_o_parts))))), (a0_sequences, .inl (K 2, 5, .inr (.inr (.inr (.inr f_o_sequences)))))] ++ va_pl LP (pcs PF)) := hD
  refine lv_iconst (v := 1) hx hb d_RuleText_addPlace_20 (by decide) ?_
  refine lv_aload_n hx hb d_RuleText_addPlace_21 rfl (lv_at hl 0 rfl) ?_
  refine va_get (ci := 9) (v := .int v_o_places) hx hb htg in_RuleText hown hK hP 0 rfl rfl 9 (by decide) (htg _ m_60) (fun _ h9 => h9) rfl d_RuleText_addPlace_22 ?_
  refine lv_ishl hx hb d_RuleText_addPlace_25 ?_
  refine lv_istore_n (lv' := [(2, .int ((1 : Int32) <<< (v_o_places &&& 31))), (0, .ref a0), (1, .int x1)]) hx hb d_RuleText_addPlace_26 rfl hl (by decide) rfl (fun ls hl => ?_)
  refine lv_aload_n hx hb d_RuleText_addPlace_27 rfl (lv_at hl 1 rfl) ?_
  refine lv_dup hx hb d_RuleText_addPlace_28 rfl ?_
  refine va_get (ci := 9) (v := .int v_o_places) hx hb htg in_RuleText hown hK hP 0 rfl rfl 9 (by decide) (htg _ m_60) (fun _ h9 => h9) rfl d_RuleText_addPlace_29 ?_
  refine lv_iconst (v := 1) hx hb d_RuleText_addPlace_32 (by decide) ?_
  refine lv_iadd hx hb d_RuleText_addPlace_33 ?_
  refine va_put (ci := 9) (v := .int (v_o_places + 1)) (ty := .int) hx hb htg in_RuleText t_RuleText tok_RuleText nm_RuleText hown hK hP hD hS 0 rfl rfl 9 (by decide) (htg _ m_60) (fun _ h9 => h9) rfl (by decide +kernel) rfl rfl (Nat.le_of_ble_eq_true rfl) d_RuleText_addPlace_34 (fun H locs hP hD hS => ?_)
  have hP : va_P G vwCl ([(a0, .inr (9, [.ref w_o_noWord, .ref w_o_emptyWord, .ref a0_set, .ref a0_choices, .ref a0_sequences, .ref a0_parts, .int v_o_depth, .ref a0_letters, .ref a0_followers, .int (v_o_places + 1)])), (a0_letters, .inl (K 0, 24, .inl (upd f_o_letters v_o_places.toNatClampNeg x1))), (a0_followers, .inl (K 0, 24, .inl (upd f_o_followers v_o_places.toNatClampNeg 0))), (a0_parts, .inl (K 2, 5, .inr (.inr (.inr (.inr f_o_parts))))), (a0_sequences, .inl (K 2, 5, .inr (.inr (.inr (.inr f_o_sequences)))))] ++ va_pl LP (pcs PF)) H := hP
  have hD : va_D A ([(a0, .inr (9, [.ref w_o_noWord, .ref w_o_emptyWord, .ref a0_set, .ref a0_choices, .ref a0_sequences, .ref a0_parts, .int v_o_depth, .ref a0_letters, .ref a0_followers, .int (v_o_places + 1)])), (a0_letters, .inl (K 0, 24, .inl (upd f_o_letters v_o_places.toNatClampNeg x1))), (a0_followers, .inl (K 0, 24, .inl (upd f_o_followers v_o_places.toNatClampNeg 0))), (a0_parts, .inl (K 2, 5, .inr (.inr (.inr (.inr f_o_parts))))), (a0_sequences, .inl (K 2, 5, .inr (.inr (.inr (.inr f_o_sequences)))))] ++ va_pl LP (pcs PF)) := hD
  refine lv_aload_n hx hb d_RuleText_addPlace_37 rfl (lv_at hl 1 rfl) ?_
  refine va_new (ci := 7) (fs := [.int 0, .int 0, .int 0]) hx hb htg in_Piece t_Piece tok_Piece hown (htg _ m_30) (htg _ m_31) (htg _ m_3) hK hP hD hS hA rfl (fun j hj => by rcases (show j = 0 ∨ j = 1 ∨ j = 2 by omega) with rfl | rfl | rfl <;> rfl) (Nat.le_of_ble_eq_true rfl) (Nat.le_of_ble_eq_true rfl) d_RuleText_addPlace_38 (fun q1 H hP hD hS => ?_)
  have hP := hP.swap
  have hD := hD.swap
  have hP : va_P G vwCl ([(a0, .inr (9, [.ref w_o_noWord, .ref w_o_emptyWord, .ref a0_set, .ref a0_choices, .ref a0_sequences, .ref a0_parts, .int v_o_depth, .ref a0_letters, .ref a0_followers, .int (v_o_places + 1)])), (a0_letters, .inl (K 0, 24, .inl (upd f_o_letters v_o_places.toNatClampNeg x1))), (a0_followers, .inl (K 0, 24, .inl (upd f_o_followers v_o_places.toNatClampNeg 0))), (a0_parts, .inl (K 2, 5, .inr (.inr (.inr (.inr f_o_parts))))), (a0_sequences, .inl (K 2, 5, .inr (.inr (.inr (.inr f_o_sequences))))), (q1, .inr (7, [.int 0, .int 0, .int 0]))] ++ va_pl LP (pcs PF)) H := hP
  have hD : va_D A ([(a0, .inr (9, [.ref w_o_noWord, .ref w_o_emptyWord, .ref a0_set, .ref a0_choices, .ref a0_sequences, .ref a0_parts, .int v_o_depth, .ref a0_letters, .ref a0_followers, .int (v_o_places + 1)])), (a0_letters, .inl (K 0, 24, .inl (upd f_o_letters v_o_places.toNatClampNeg x1))), (a0_followers, .inl (K 0, 24, .inl (upd f_o_followers v_o_places.toNatClampNeg 0))), (a0_parts, .inl (K 2, 5, .inr (.inr (.inr (.inr f_o_parts))))), (a0_sequences, .inl (K 2, 5, .inr (.inr (.inr (.inr f_o_sequences))))), (q1, .inr (7, [.int 0, .int 0, .int 0]))] ++ va_pl LP (pcs PF)) := hD
  refine lv_dup hx hb d_RuleText_addPlace_41 rfl ?_
  refine lv_iload_n hx hb d_RuleText_addPlace_42 rfl (lv_at hl 0 rfl) ?_
  refine lv_iload_n hx hb d_RuleText_addPlace_43 rfl (lv_at hl 0 rfl) ?_
  refine lv_iconst (v := 0) hx hb d_RuleText_addPlace_44 (by decide) ?_
  have hPc : va_P G vwCl [(q1, .inr (7, [.int 0, .int 0, .int 0]))] _ := hP.sub [5] rfl
  have hDc : va_D A [(q1, .inr (7, [.int 0, .int 0, .int 0]))] := hD.sub [5] (by decide) rfl
  have hRc : va_P G vwCl [] _ := hP.sub [] rfl
  have hJc : gJ [(q1, .inr (7, [.int 0, .int 0, .int 0]))] [] := gJ_nil
  refine g_callvQ (wr := [(a0, .inr (9, [.ref w_o_noWord, .ref w_o_emptyWord, .ref a0_set, .ref a0_choices, .ref a0_sequences, .ref a0_parts, .int v_o_depth, .ref a0_letters, .ref a0_followers, .int (v_o_places + 1)])), (a0_letters, .inl (K 0, 24, .inl (upd f_o_letters v_o_places.toNatClampNeg x1))), (a0_followers, .inl (K 0, 24, .inl (upd f_o_followers v_o_places.toNatClampNeg 0))), (a0_parts, .inl (K 2, 5, .inr (.inr (.inr (.inr f_o_parts))))), (a0_sequences, .inl (K 2, 5, .inr (.inr (.inr (.inr f_o_sequences)))))]) (va_runI (As := [.int ((1 : Int32) <<< (v_o_places &&& 31)), .int ((1 : Int32) <<< (v_o_places &&& 31)), .int 0]) (rest := [.ref q1, .ref a0]) ⟨hx, hb, hml, hown, htg⟩ (k_Piece_init l G K q1 _ ((1 : Int32) <<< (v_o_places &&& 31)) ((1 : Int32) <<< (v_o_places &&& 31)) 0 _ h) (cwI 3 htg (gGood m_34) rfl rfl rfl (htg _ m_3) (htg _ m_32) (htg _ m_33) rfl (by decide +kernel) ⟨(Nat.le_of_ble_eq_true rfl), (Nat.le_of_ble_eq_true rfl)⟩) (gW_pre hK hN hPc hDc hRc hJc) rfl rfl hl.1 rfl (lv_room (Nat.le_of_ble_eq_true rfl)) d_RuleText_addPlace_45 ⟨(Nat.le_of_ble_eq_true rfl), (Nat.le_of_ble_eq_true rfl)⟩) hP hD hS hA [5] [0, 1, 2, 3, 4] rfl rfl (by decide) (by decide) (fun u H locs h hP hD hS => ?_)
  obtain ⟨u2, u3, u4⟩ := u
  try dsimp only at h
  have hP : va_P G vwCl ([(a0, .inr (9, [.ref w_o_noWord, .ref w_o_emptyWord, .ref a0_set, .ref a0_choices, .ref a0_sequences, .ref a0_parts, .int v_o_depth, .ref a0_letters, .ref a0_followers, .int (v_o_places + 1)])), (a0_letters, .inl (K 0, 24, .inl (upd f_o_letters v_o_places.toNatClampNeg x1))), (a0_followers, .inl (K 0, 24, .inl (upd f_o_followers v_o_places.toNatClampNeg 0))), (a0_parts, .inl (K 2, 5, .inr (.inr (.inr (.inr f_o_parts))))), (a0_sequences, .inl (K 2, 5, .inr (.inr (.inr (.inr f_o_sequences))))), (q1, .inr (7, [.int u2, .int u3, .int u4]))] ++ va_pl LP (pcs PF)) H := hP
  have hD : va_D A ([(a0, .inr (9, [.ref w_o_noWord, .ref w_o_emptyWord, .ref a0_set, .ref a0_choices, .ref a0_sequences, .ref a0_parts, .int v_o_depth, .ref a0_letters, .ref a0_followers, .int (v_o_places + 1)])), (a0_letters, .inl (K 0, 24, .inl (upd f_o_letters v_o_places.toNatClampNeg x1))), (a0_followers, .inl (K 0, 24, .inl (upd f_o_followers v_o_places.toNatClampNeg 0))), (a0_parts, .inl (K 2, 5, .inr (.inr (.inr (.inr f_o_parts))))), (a0_sequences, .inl (K 2, 5, .inr (.inr (.inr (.inr f_o_sequences))))), (q1, .inr (7, [.int u2, .int u3, .int u4]))] ++ va_pl LP (pcs PF)) := hD
  have hP : va_P G vwCl (([(a0, .inr (9, [.ref w_o_noWord, .ref w_o_emptyWord, .ref a0_set, .ref a0_choices, .ref a0_sequences, .ref a0_parts, .int v_o_depth, .ref a0_letters, .ref a0_followers, .int (v_o_places + 1)])), (a0_letters, .inl (K 0, 24, .inl (upd f_o_letters v_o_places.toNatClampNeg x1))), (a0_followers, .inl (K 0, 24, .inl (upd f_o_followers v_o_places.toNatClampNeg 0))), (a0_parts, .inl (K 2, 5, .inr (.inr (.inr (.inr f_o_parts))))), (a0_sequences, .inl (K 2, 5, .inr (.inr (.inr (.inr f_o_sequences)))))] ++ [(q1, .inr (7, [.int u2, .int u3, .int u4]))]) ++ va_pl LP (pcs PF)) _ := hP.part [0, 1, 2, 3, 4, 5] rfl
  have hD : va_D A (([(a0, .inr (9, [.ref w_o_noWord, .ref w_o_emptyWord, .ref a0_set, .ref a0_choices, .ref a0_sequences, .ref a0_parts, .int v_o_depth, .ref a0_letters, .ref a0_followers, .int (v_o_places + 1)])), (a0_letters, .inl (K 0, 24, .inl (upd f_o_letters v_o_places.toNatClampNeg x1))), (a0_followers, .inl (K 0, 24, .inl (upd f_o_followers v_o_places.toNatClampNeg 0))), (a0_parts, .inl (K 2, 5, .inr (.inr (.inr (.inr f_o_parts))))), (a0_sequences, .inl (K 2, 5, .inr (.inr (.inr (.inr f_o_sequences)))))] ++ [(q1, .inr (7, [.int u2, .int u3, .int u4]))]) ++ va_pl LP (pcs PF)) := hD.part [0, 1, 2, 3, 4, 5] (by decide) rfl
  have hq := g_fresh hD
  replace h := h q1 hq
  have hP := g_pushP hq hP.swap
  have hD := g_pushD hq hD.swap
  have hP : va_P G vwCl ([(a0, .inr (9, [.ref w_o_noWord, .ref w_o_emptyWord, .ref a0_set, .ref a0_choices, .ref a0_sequences, .ref a0_parts, .int v_o_depth, .ref a0_letters, .ref a0_followers, .int (v_o_places + 1)])), (a0_letters, .inl (K 0, 24, .inl (upd f_o_letters v_o_places.toNatClampNeg x1))), (a0_followers, .inl (K 0, 24, .inl (upd f_o_followers v_o_places.toNatClampNeg 0))), (a0_parts, .inl (K 2, 5, .inr (.inr (.inr (.inr f_o_parts))))), (a0_sequences, .inl (K 2, 5, .inr (.inr (.inr (.inr f_o_sequences)))))] ++ va_pl (LP ++ [q1]) (pcs (va_up PF q1 (u2, u3, u4)))) H := hP
  have hD : va_D A ([(a0, .inr (9, [.ref w_o_noWord, .ref w_o_emptyWord, .ref a0_set, .ref a0_choices, .ref a0_sequences, .ref a0_parts, .int v_o_depth, .ref a0_letters, .ref a0_followers, .int (v_o_places + 1)])), (a0_letters, .inl (K 0, 24, .inl (upd f_o_letters v_o_places.toNatClampNeg x1))), (a0_followers, .inl (K 0, 24, .inl (upd f_o_followers v_o_places.toNatClampNeg 0))), (a0_parts, .inl (K 2, 5, .inr (.inr (.inr (.inr f_o_parts))))), (a0_sequences, .inl (K 2, 5, .inr (.inr (.inr (.inr f_o_sequences)))))] ++ va_pl (LP ++ [q1]) (pcs (va_up PF q1 (u2, u3, u4)))) := hD
  have hPc : va_P G vwCl ([(a0, .inr (9, [.ref w_o_noWord, .ref w_o_emptyWord, .ref a0_set, .ref a0_choices, .ref a0_sequences, .ref a0_parts, .int v_o_depth, .ref a0_letters, .ref a0_followers, .int (v_o_places + 1)])), (a0_parts, .inl (K 2, 5, .inr (.inr (.inr (.inr f_o_parts))))), (a0_sequences, .inl (K 2, 5, .inr (.inr (.inr (.inr f_o_sequences))))), (a0_followers, .inl (K 0, 24, .inl (upd f_o_followers v_o_places.toNatClampNeg 0)))] ++ va_pl (LP ++ [q1]) (pcs (va_up PF q1 (u2, u3, u4)))) _ := hP.part [0, 3, 4, 2] rfl
  have hDc : va_D A ([(a0, .inr (9, [.ref w_o_noWord, .ref w_o_emptyWord, .ref a0_set, .ref a0_choices, .ref a0_sequences, .ref a0_parts, .int v_o_depth, .ref a0_letters, .ref a0_followers, .int (v_o_places + 1)])), (a0_parts, .inl (K 2, 5, .inr (.inr (.inr (.inr f_o_parts))))), (a0_sequences, .inl (K 2, 5, .inr (.inr (.inr (.inr f_o_sequences))))), (a0_followers, .inl (K 0, 24, .inl (upd f_o_followers v_o_places.toNatClampNeg 0)))] ++ va_pl (LP ++ [q1]) (pcs (va_up PF q1 (u2, u3, u4)))) := hD.part [0, 3, 4, 2] (by decide) rfl
  have hRc : va_P G vwCl [] _ := hP.sub [] rfl
  have hJc : gJ ([(a0, .inr (9, [.ref w_o_noWord, .ref w_o_emptyWord, .ref a0_set, .ref a0_choices, .ref a0_sequences, .ref a0_parts, .int v_o_depth, .ref a0_letters, .ref a0_followers, .int (v_o_places + 1)])), (a0_parts, .inl (K 2, 5, .inr (.inr (.inr (.inr f_o_parts))))), (a0_sequences, .inl (K 2, 5, .inr (.inr (.inr (.inr f_o_sequences))))), (a0_followers, .inl (K 0, 24, .inl (upd f_o_followers v_o_places.toNatClampNeg 0)))] ++ va_pl (LP ++ [q1]) (pcs (va_up PF q1 (u2, u3, u4)))) [] := gJ_nil
  refine g_callvP (wr := [(a0_letters, .inl (K 0, 24, .inl (upd f_o_letters v_o_places.toNatClampNeg x1)))]) (va_runV (As := [.ref q1]) (rest := []) ⟨hx, hb, hml, hown, htg⟩ (k_RuleText_addPart l G K a0 a0_parts a0_sequences a0_followers a0_set a0_choices a0_letters _ w_o_noWord w_o_emptyWord v_o_depth (v_o_places + 1) f_o_parts f_o_sequences (upd f_o_followers v_o_places.toNatClampNeg 0) (LP ++ [q1]) (va_up PF q1 (u2, u3, u4)) q1 _ h) (cwV 1 htg (gGoodV m_243 m_244 m_857 m_2 m_245) rfl rfl rfl (by decide +kernel) ⟨(Nat.le_of_ble_eq_true rfl), (Nat.le_of_ble_eq_true rfl)⟩) (gW_preV (ci := 9) (q0 := 0) hK hN hPc hDc hRc hJc hPc rfl rfl) rfl rfl hl.1 rfl (lv_room (Nat.le_of_ble_eq_true rfl)) d_RuleText_addPlace_48 ⟨(Nat.le_of_ble_eq_true rfl), (Nat.le_of_ble_eq_true rfl)⟩) hP hD hS hA [0, 3, 4, 2] [1] rfl rfl (by decide) (by decide) (fun u H locs h hP hD hS => ?_)
  obtain ⟨u6, u7, u8, u9, u10⟩ := u
  try dsimp only at h
  have hP : va_P G vwCl ([(a0_letters, .inl (K 0, 24, .inl (upd f_o_letters v_o_places.toNatClampNeg x1))), (a0, .inr (9, [.ref w_o_noWord, .ref w_o_emptyWord, .ref a0_set, .ref a0_choices, .ref a0_sequences, .ref a0_parts, .int v_o_depth, .ref a0_letters, .ref a0_followers, .int (v_o_places + 1)])), (a0_parts, .inl (K 2, 5, .inr (.inr (.inr (.inr u6))))), (a0_sequences, .inl (K 2, 5, .inr (.inr (.inr (.inr u7))))), (a0_followers, .inl (K 0, 24, .inl u8))] ++ va_pl u9 (pcs u10)) H := hP
  have hD : va_D A ([(a0_letters, .inl (K 0, 24, .inl (upd f_o_letters v_o_places.toNatClampNeg x1))), (a0, .inr (9, [.ref w_o_noWord, .ref w_o_emptyWord, .ref a0_set, .ref a0_choices, .ref a0_sequences, .ref a0_parts, .int v_o_depth, .ref a0_letters, .ref a0_followers, .int (v_o_places + 1)])), (a0_parts, .inl (K 2, 5, .inr (.inr (.inr (.inr u6))))), (a0_sequences, .inl (K 2, 5, .inr (.inr (.inr (.inr u7))))), (a0_followers, .inl (K 0, 24, .inl u8))] ++ va_pl u9 (pcs u10)) := hD
  exact hret ((v_o_places + 1), (upd f_o_letters v_o_places.toNatClampNeg x1), u8, u6, u7, u9, u10) _ _ _ _ h (hP.part [1, 0, 4, 2, 3] rfl) (hD.part [1, 0, 4, 2, 3] (by decide) rfl) hS d_RuleText_addPlace_51
def p_RuleText_putLetter (v_o_depth : Int32) (v_o_places : Int32) (f_o_letters : (Nat → Int32)) (f_o_followers : (Nat → Int32)) (f_o_parts : (Nat → Option Nat)) (f_o_sequences : (Nat → Option Nat)) (LP : (List Nat)) (PF : (Nat → Int32 × Int32 × Int32)) (x1 : Int32) (post : Int32 → Int32 → (Nat → Int32) → (Nat → Int32) → (Nat → Option Nat) → (Nat → Option Nat) → (List Nat) → (Nat → Int32 × Int32 × Int32) → Prop) : Prop := (p_RuleText_isLetter x1 (fun r1 => ((¬ r1 = 0 → (p_RuleText_addPlace v_o_depth v_o_places f_o_letters f_o_followers f_o_parts f_o_sequences LP PF ((1 : Int32) <<< (x1 &&& 31)) (fun u2 u3 u4 u5 u6 u7 u8 => (post 1 u2 u3 u4 u5 u6 u7 u8)))) ∧ (r1 = 0 → (post 0 v_o_places f_o_letters f_o_followers f_o_parts f_o_sequences LP PF)))))
set_option maxHeartbeats 4000000 in
set_option maxRecDepth 100000 in
theorem k_RuleText_putLetter (l : Launch) (G : va_G) (K : Nat → ClassId) (a0 a0_letters a0_followers a0_parts a0_sequences a0_set a0_choices : Nat) (sz : Nat) (w_o_noWord : Nat) (w_o_emptyWord : Nat) (v_o_depth : Int32) (v_o_places : Int32) (f_o_letters : (Nat → Int32)) (f_o_followers : (Nat → Int32)) (f_o_parts : (Nat → Option Nat)) (f_o_sequences : (Nat → Option Nat)) (LP : (List Nat)) (PF : (Nat → Int32 × Int32 × Int32)) (x1 : Int32) (post : Int32 → Int32 → (Nat → Int32) → (Nat → Int32) → (Nat → Option Nat) → (Nat → Option Nat) → (List Nat) → (Nat → Int32 × Int32 × Int32) → Prop) (h : p_RuleText_putLetter v_o_depth v_o_places f_o_letters f_o_followers f_o_parts f_o_sequences LP PF x1 post) : MWi l y_RuleText_putLetter (.code y_RuleText_putLetter c_RuleText_putLetter 2 (some .boolean)) { frames := 5, cells := 2, slots := 6, locals := 108 } G K ([(a0, .inr (9, [.ref w_o_noWord, .ref w_o_emptyWord, .ref a0_set, .ref a0_choices, .ref a0_sequences, .ref a0_parts, .int v_o_depth, .ref a0_letters, .ref a0_followers, .int v_o_places])), (a0_letters, .inl (K 0, 24, .inl f_o_letters)), (a0_followers, .inl (K 0, 24, .inl f_o_followers)), (a0_parts, .inl (K 2, 5, .inr (.inr (.inr (.inr f_o_parts))))), (a0_sequences, .inl (K 2, 5, .inr (.inr (.inr (.inr f_o_sequences)))))] ++ va_pl LP (pcs PF)) [] [.ref a0, .int x1] sz (fun r (u : Int32 × (Nat → Int32) × (Nat → Int32) × (Nat → Option Nat) × (Nat → Option Nat) × (List Nat) × (Nat → Int32 × Int32 × Int32)) => post r u.1 u.2.1 u.2.2.1 u.2.2.2.1 u.2.2.2.2.1 u.2.2.2.2.2.1 u.2.2.2.2.2.2) (fun u => ([(a0, .inr (9, [.ref w_o_noWord, .ref w_o_emptyWord, .ref a0_set, .ref a0_choices, .ref a0_sequences, .ref a0_parts, .int v_o_depth, .ref a0_letters, .ref a0_followers, .int u.1])), (a0_letters, .inl (K 0, 24, .inl u.2.1)), (a0_followers, .inl (K 0, 24, .inl u.2.2.1)), (a0_parts, .inl (K 2, 5, .inr (.inr (.inr (.inr u.2.2.2.1))))), (a0_sequences, .inl (K 2, 5, .inr (.inr (.inr (.inr u.2.2.2.2.1)))))] ++ va_pl u.2.2.2.2.2.1 (pcs u.2.2.2.2.2.2))) 2 6 := by
  refine g_metWi (cc := c_RuleText_putLetter) (maxL := 2) (ret := some .boolean) (rt := .boolean) (by decide) rfl rfl (Nat.le_of_ble_eq_true rfl) ?_
  intro p e s m below meth c A Q hx hb hml hown hname htg hK hN hP hD hA hS hR rN hret ls hl
  have hl : lv_has ls 2 [(0, .ref a0), (1, .int x1)] := hl
  refine lv_iload_n hx hb d_RuleText_putLetter_0 rfl (lv_at hl 1 rfl) ?_
  have hPc : va_P G vwCl [] _ := hP.sub [] rfl
  refine vp_callSi (va_Run.run (va_runS (As := [.int x1]) (rest := []) ⟨hx, hb, hml, hown, htg⟩ (k_RuleText_isLetter l G K  x1 _ h) (va_cwS 1 htg (gGoodS m_255 m_256 m_2 m_257) rfl rfl rfl (by decide +kernel) ⟨(Nat.le_of_ble_eq_true rfl), (Nat.le_of_ble_eq_true rfl)⟩) (gS_pre hK hN hPc) rfl rfl hl.1 rfl (lv_room (Nat.le_of_ble_eq_true rfl)) d_RuleText_putLetter_1 ⟨(Nat.le_of_ble_eq_true rfl), (Nat.le_of_ble_eq_true rfl)⟩)) (fun r1 h => ?_)
  refine lv_if_ne (tgt := 9) hx hb d_RuleText_putLetter_4 (by decide) (fun hc => ?_) (fun hc => ?_)
  · replace h := h.1 hc
    refine lv_aload_n hx hb d_RuleText_putLetter_9 rfl (lv_at hl 0 rfl) ?_
    refine lv_iconst (v := 1) hx hb d_RuleText_putLetter_10 (by decide) ?_
    refine lv_iload_n hx hb d_RuleText_putLetter_11 rfl (lv_at hl 1 rfl) ?_
    refine lv_ishl hx hb d_RuleText_putLetter_12 ?_
    have hPc : va_P G vwCl ([(a0, .inr (9, [.ref w_o_noWord, .ref w_o_emptyWord, .ref a0_set, .ref a0_choices, .ref a0_sequences, .ref a0_parts, .int v_o_depth, .ref a0_letters, .ref a0_followers, .int v_o_places])), (a0_letters, .inl (K 0, 24, .inl f_o_letters)), (a0_followers, .inl (K 0, 24, .inl f_o_followers)), (a0_parts, .inl (K 2, 5, .inr (.inr (.inr (.inr f_o_parts))))), (a0_sequences, .inl (K 2, 5, .inr (.inr (.inr (.inr f_o_sequences)))))] ++ va_pl LP (pcs PF)) _ := hP.part [0, 1, 2, 3, 4] rfl
    have hDc : va_D A ([(a0, .inr (9, [.ref w_o_noWord, .ref w_o_emptyWord, .ref a0_set, .ref a0_choices, .ref a0_sequences, .ref a0_parts, .int v_o_depth, .ref a0_letters, .ref a0_followers, .int v_o_places])), (a0_letters, .inl (K 0, 24, .inl f_o_letters)), (a0_followers, .inl (K 0, 24, .inl f_o_followers)), (a0_parts, .inl (K 2, 5, .inr (.inr (.inr (.inr f_o_parts))))), (a0_sequences, .inl (K 2, 5, .inr (.inr (.inr (.inr f_o_sequences)))))] ++ va_pl LP (pcs PF)) := hD.part [0, 1, 2, 3, 4] (by decide) rfl
    have hRc : va_P G vwCl [] _ := hP.sub [] rfl
    have hJc : gJ ([(a0, .inr (9, [.ref w_o_noWord, .ref w_o_emptyWord, .ref a0_set, .ref a0_choices, .ref a0_sequences, .ref a0_parts, .int v_o_depth, .ref a0_letters, .ref a0_followers, .int v_o_places])), (a0_letters, .inl (K 0, 24, .inl f_o_letters)), (a0_followers, .inl (K 0, 24, .inl f_o_followers)), (a0_parts, .inl (K 2, 5, .inr (.inr (.inr (.inr f_o_parts))))), (a0_sequences, .inl (K 2, 5, .inr (.inr (.inr (.inr f_o_sequences)))))] ++ va_pl LP (pcs PF)) [] := gJ_nil
    refine g_callvP (wr := []) (va_runV (As := [.int ((1 : Int32) <<< (x1 &&& 31))]) (rest := []) ⟨hx, hb, hml, hown, htg⟩ (k_RuleText_addPlace l G K a0 a0_letters a0_followers a0_parts a0_sequences a0_set a0_choices _ w_o_noWord w_o_emptyWord v_o_depth v_o_places f_o_letters f_o_followers f_o_parts f_o_sequences LP PF ((1 : Int32) <<< (x1 &&& 31)) _ h) (cwV 1 htg (gGoodV m_240 m_241 m_858 m_2 m_242) rfl rfl rfl (by decide +kernel) ⟨(Nat.le_of_ble_eq_true rfl), (Nat.le_of_ble_eq_true rfl)⟩) (gW_preV (ci := 9) (q0 := 0) hK hN hPc hDc hRc hJc hPc rfl rfl) rfl rfl hl.1 rfl (lv_room (Nat.le_of_ble_eq_true rfl)) d_RuleText_putLetter_13 ⟨(Nat.le_of_ble_eq_true rfl), (Nat.le_of_ble_eq_true rfl)⟩) hP hD hS hA [0, 1, 2, 3, 4] [] rfl rfl (by decide) (by decide) (fun u H locs h hP hD hS => ?_)
    obtain ⟨u2, u3, u4, u5, u6, u7, u8⟩ := u
    try dsimp only at h
    have hP : va_P G vwCl ([(a0, .inr (9, [.ref w_o_noWord, .ref w_o_emptyWord, .ref a0_set, .ref a0_choices, .ref a0_sequences, .ref a0_parts, .int v_o_depth, .ref a0_letters, .ref a0_followers, .int u2])), (a0_letters, .inl (K 0, 24, .inl u3)), (a0_followers, .inl (K 0, 24, .inl u4)), (a0_parts, .inl (K 2, 5, .inr (.inr (.inr (.inr u5))))), (a0_sequences, .inl (K 2, 5, .inr (.inr (.inr (.inr u6)))))] ++ va_pl u7 (pcs u8)) H := hP
    have hD : va_D A ([(a0, .inr (9, [.ref w_o_noWord, .ref w_o_emptyWord, .ref a0_set, .ref a0_choices, .ref a0_sequences, .ref a0_parts, .int v_o_depth, .ref a0_letters, .ref a0_followers, .int u2])), (a0_letters, .inl (K 0, 24, .inl u3)), (a0_followers, .inl (K 0, 24, .inl u4)), (a0_parts, .inl (K 2, 5, .inr (.inr (.inr (.inr u5))))), (a0_sequences, .inl (K 2, 5, .inr (.inr (.inr (.inr u6)))))] ++ va_pl u7 (pcs u8)) := hD
    refine lv_iconst (v := 1) hx hb d_RuleText_putLetter_16 (by decide) ?_
    exact hret _ (u2, u3, u4, u5, u6, u7, u8) _ _ _ _ h (by decide +kernel) (hP.part [0, 1, 2, 3, 4] rfl) (hD.part [0, 1, 2, 3, 4] (by decide) rfl) hS d_RuleText_putLetter_17
  · replace h := h.2 hc
    refine lv_iconst (v := 0) hx hb d_RuleText_putLetter_7 (by decide) ?_
    refine W.widen (k := 2) (n := 6) (by decide) (by decide) ?_
    exact hret _ (v_o_places, f_o_letters, f_o_followers, f_o_parts, f_o_sequences, LP, PF) _ _ _ _ h (by decide +kernel) (hP.part [0, 1, 2, 3, 4] rfl) (hD.part [0, 1, 2, 3, 4] (by decide) rfl) hS d_RuleText_putLetter_8
def p_RuleText_openGroup (w_o_noWord : Nat) (w_o_emptyWord : Nat) (v_o_depth : Int32) (f_o_choices : (Nat → Option Nat)) (f_o_sequences : (Nat → Option Nat)) (f_o_parts : (Nat → Option Nat)) (LP : (List Nat)) (post : Int32 → Int32 → (Nat → Option Nat) → (Nat → Option Nat) → (Nat → Option Nat) → Prop) : Prop := ((v_o_depth < 4 → (p_RuleText_openLevel w_o_noWord w_o_emptyWord f_o_choices f_o_sequences f_o_parts LP (v_o_depth + 1) (fun u1 u2 u3 u4 => (post 1 u1 u2 u3 u4)))) ∧ (¬ v_o_depth < 4 → (post 0 v_o_depth f_o_choices f_o_sequences f_o_parts)))
set_option maxHeartbeats 4000000 in
set_option maxRecDepth 100000 in
theorem k_RuleText_openGroup (l : Launch) (G : va_G) (K : Nat → ClassId) (a0 a0_choices a0_sequences a0_parts a0_set a0_letters a0_followers : Nat) (sz : Nat) (w_o_noWord : Nat) (w_o_emptyWord : Nat) (v_o_depth : Int32) (v_o_places : Int32) (f_o_choices : (Nat → Option Nat)) (f_o_sequences : (Nat → Option Nat)) (f_o_parts : (Nat → Option Nat)) (LP : (List Nat)) (PF : (Nat → Int32 × Int32 × Int32)) (post : Int32 → Int32 → (Nat → Option Nat) → (Nat → Option Nat) → (Nat → Option Nat) → Prop) (h : p_RuleText_openGroup w_o_noWord w_o_emptyWord v_o_depth f_o_choices f_o_sequences f_o_parts LP post) : MWi l y_RuleText_openGroup (.code y_RuleText_openGroup c_RuleText_openGroup 1 (some .boolean)) { frames := 1, cells := 0, slots := 0, locals := 21 } G K ([(a0, .inr (9, [.ref w_o_noWord, .ref w_o_emptyWord, .ref a0_set, .ref a0_choices, .ref a0_sequences, .ref a0_parts, .int v_o_depth, .ref a0_letters, .ref a0_followers, .int v_o_places])), (a0_choices, .inl (K 2, 5, .inr (.inr (.inr (.inr f_o_choices))))), (a0_sequences, .inl (K 2, 5, .inr (.inr (.inr (.inr f_o_sequences))))), (a0_parts, .inl (K 2, 5, .inr (.inr (.inr (.inr f_o_parts)))))] ++ va_pl LP (pcs PF)) [] [.ref a0] sz (fun r (u : Int32 × (Nat → Option Nat) × (Nat → Option Nat) × (Nat → Option Nat)) => post r u.1 u.2.1 u.2.2.1 u.2.2.2) (fun u => ([(a0, .inr (9, [.ref w_o_noWord, .ref w_o_emptyWord, .ref a0_set, .ref a0_choices, .ref a0_sequences, .ref a0_parts, .int u.1, .ref a0_letters, .ref a0_followers, .int v_o_places])), (a0_choices, .inl (K 2, 5, .inr (.inr (.inr (.inr u.2.1))))), (a0_sequences, .inl (K 2, 5, .inr (.inr (.inr (.inr u.2.2.1))))), (a0_parts, .inl (K 2, 5, .inr (.inr (.inr (.inr u.2.2.2)))))] ++ va_pl LP (pcs PF))) 0 0 := by
  refine g_metWi (cc := c_RuleText_openGroup) (maxL := 1) (ret := some .boolean) (rt := .boolean) (by decide) rfl rfl (Nat.le_of_ble_eq_true rfl) ?_
  intro p e s m below meth c A Q hx hb hml hown hname htg hK hN hP hD hA hS hR rN hret ls hl
  have hl : lv_has ls 1 [(0, .ref a0)] := hl
  refine lv_aload_n hx hb d_RuleText_openGroup_0 rfl (lv_at hl 0 rfl) ?_
  refine va_get (ci := 9) (v := .int v_o_depth) hx hb htg in_RuleText hown hK hP 0 rfl rfl 6 (by decide) (htg _ m_57) (fun _ h9 => h9) rfl d_RuleText_openGroup_1 ?_
  refine lv_iconst (v := 4) hx hb d_RuleText_openGroup_4 (by decide) ?_
  refine lv_icmp_lt (tgt := 10) hx hb d_RuleText_openGroup_5 (by decide) (fun hc => ?_) (fun hc => ?_)
  · replace h := h.1 hc
    refine lv_aload_n hx hb d_RuleText_openGroup_10 rfl (lv_at hl 0 rfl) ?_
    refine lv_aload_n hx hb d_RuleText_openGroup_11 rfl (lv_at hl 0 rfl) ?_
    refine va_get (ci := 9) (v := .int v_o_depth) hx hb htg in_RuleText hown hK hP 0 rfl rfl 6 (by decide) (htg _ m_57) (fun _ h9 => h9) rfl d_RuleText_openGroup_12 ?_
    refine lv_iconst (v := 1) hx hb d_RuleText_openGroup_15 (by decide) ?_
    refine lv_iadd hx hb d_RuleText_openGroup_16 ?_
    have hPc : va_P G vwCl ([(a0, .inr (9, [.ref w_o_noWord, .ref w_o_emptyWord, .ref a0_set, .ref a0_choices, .ref a0_sequences, .ref a0_parts, .int v_o_depth, .ref a0_letters, .ref a0_followers, .int v_o_places])), (a0_choices, .inl (K 2, 5, .inr (.inr (.inr (.inr f_o_choices))))), (a0_sequences, .inl (K 2, 5, .inr (.inr (.inr (.inr f_o_sequences))))), (a0_parts, .inl (K 2, 5, .inr (.inr (.inr (.inr f_o_parts)))))] ++ va_pl LP (pcs PF)) _ := hP.part [0, 1, 2, 3] rfl
    have hDc : va_D A ([(a0, .inr (9, [.ref w_o_noWord, .ref w_o_emptyWord, .ref a0_set, .ref a0_choices, .ref a0_sequences, .ref a0_parts, .int v_o_depth, .ref a0_letters, .ref a0_followers, .int v_o_places])), (a0_choices, .inl (K 2, 5, .inr (.inr (.inr (.inr f_o_choices))))), (a0_sequences, .inl (K 2, 5, .inr (.inr (.inr (.inr f_o_sequences))))), (a0_parts, .inl (K 2, 5, .inr (.inr (.inr (.inr f_o_parts)))))] ++ va_pl LP (pcs PF)) := hD.part [0, 1, 2, 3] (by decide) rfl
    have hRc : va_P G vwCl [] _ := hP.sub [] rfl
    have hJc : gJ ([(a0, .inr (9, [.ref w_o_noWord, .ref w_o_emptyWord, .ref a0_set, .ref a0_choices, .ref a0_sequences, .ref a0_parts, .int v_o_depth, .ref a0_letters, .ref a0_followers, .int v_o_places])), (a0_choices, .inl (K 2, 5, .inr (.inr (.inr (.inr f_o_choices))))), (a0_sequences, .inl (K 2, 5, .inr (.inr (.inr (.inr f_o_sequences))))), (a0_parts, .inl (K 2, 5, .inr (.inr (.inr (.inr f_o_parts)))))] ++ va_pl LP (pcs PF)) [] := gJ_nil
    refine g_callvP (wr := []) (va_runV (As := [.int (v_o_depth + 1)]) (rest := []) ⟨hx, hb, hml, hown, htg⟩ (k_RuleText_openLevel l G K a0 a0_choices a0_sequences a0_parts a0_set a0_letters a0_followers _ w_o_noWord w_o_emptyWord v_o_depth v_o_places f_o_choices f_o_sequences f_o_parts LP PF (v_o_depth + 1) _ h) (cwV 1 htg (gGoodV m_213 m_214 m_865 m_2 m_215) rfl rfl rfl (by decide +kernel) ⟨(Nat.le_of_ble_eq_true rfl), (Nat.le_of_ble_eq_true rfl)⟩) (gW_preV (ci := 9) (q0 := 0) hK hN hPc hDc hRc hJc hPc rfl rfl) rfl rfl hl.1 rfl (lv_room (Nat.le_of_ble_eq_true rfl)) d_RuleText_openGroup_17 ⟨(Nat.le_of_ble_eq_true rfl), (Nat.le_of_ble_eq_true rfl)⟩) hP hD hS hA [0, 1, 2, 3] [] rfl rfl (by decide) (by decide) (fun u H locs h hP hD hS => ?_)
    obtain ⟨u1, u2, u3, u4⟩ := u
    try dsimp only at h
    have hP : va_P G vwCl ([(a0, .inr (9, [.ref w_o_noWord, .ref w_o_emptyWord, .ref a0_set, .ref a0_choices, .ref a0_sequences, .ref a0_parts, .int u1, .ref a0_letters, .ref a0_followers, .int v_o_places])), (a0_choices, .inl (K 2, 5, .inr (.inr (.inr (.inr u2))))), (a0_sequences, .inl (K 2, 5, .inr (.inr (.inr (.inr u3))))), (a0_parts, .inl (K 2, 5, .inr (.inr (.inr (.inr u4)))))] ++ va_pl LP (pcs PF)) H := hP
    have hD : va_D A ([(a0, .inr (9, [.ref w_o_noWord, .ref w_o_emptyWord, .ref a0_set, .ref a0_choices, .ref a0_sequences, .ref a0_parts, .int u1, .ref a0_letters, .ref a0_followers, .int v_o_places])), (a0_choices, .inl (K 2, 5, .inr (.inr (.inr (.inr u2))))), (a0_sequences, .inl (K 2, 5, .inr (.inr (.inr (.inr u3))))), (a0_parts, .inl (K 2, 5, .inr (.inr (.inr (.inr u4)))))] ++ va_pl LP (pcs PF)) := hD
    refine lv_iconst (v := 1) hx hb d_RuleText_openGroup_20 (by decide) ?_
    exact hret _ (u1, u2, u3, u4) _ _ _ _ h (by decide +kernel) (hP.part [0, 1, 2, 3] rfl) (hD.part [0, 1, 2, 3] (by decide) rfl) hS d_RuleText_openGroup_21
  · replace h := h.2 hc
    refine lv_iconst (v := 0) hx hb d_RuleText_openGroup_8 (by decide) ?_
    exact hret _ (v_o_depth, f_o_choices, f_o_sequences, f_o_parts) _ _ _ _ h (by decide +kernel) (hP.part [0, 1, 2, 3] rfl) (hD.part [0, 1, 2, 3] (by decide) rfl) hS d_RuleText_openGroup_9
def p_RuleText_closeGroup (w_o_emptyWord : Nat) (v_o_depth : Int32) (v_o_places : Int32) (f_o_parts : (Nat → Option Nat)) (f_o_sequences : (Nat → Option Nat)) (f_o_followers : (Nat → Int32)) (f_o_choices : (Nat → Option Nat)) (LP : (List Nat)) (PF : (Nat → Int32 × Int32 × Int32)) (post : Int32 → Int32 → (Nat → Option Nat) → (Nat → Option Nat) → (Nat → Int32) → (Nat → Option Nat) → (List Nat) → (Nat → Int32 × Int32 × Int32) → Prop) : Prop := ((v_o_depth = 0 → (post 0 v_o_depth f_o_parts f_o_sequences f_o_followers f_o_choices LP PF)) ∧ (¬ v_o_depth = 0 → (p_RuleText_endSequence w_o_emptyWord v_o_depth v_o_places f_o_parts f_o_sequences f_o_followers f_o_choices LP PF (fun r7 u1 u2 u3 u4 u5 u6 => ((¬ r7 = 0 → (vp_in ((v_o_depth - 1) + 1) 5 ∧ ((u4 ((v_o_depth - 1) + 1).toNatClampNeg = none → (p_RuleText_addPartN (v_o_depth - 1) v_o_places u1 u2 u3 u5 u6 (fun u9 u10 u11 u12 u13 => (post 1 (v_o_depth - 1) u9 u10 u11 u4 u12 u13)))) ∧ (∀ z8, u4 ((v_o_depth - 1) + 1).toNatClampNeg = some z8 → (p_RuleText_addPart (v_o_depth - 1) v_o_places u1 u2 u3 u5 u6 z8 (fun u15 u16 u17 u18 u19 => (post 1 (v_o_depth - 1) u15 u16 u17 u4 u18 u19))))))) ∧ (r7 = 0 → (post 0 v_o_depth u1 u2 u3 u4 u5 u6)))))))
set_option maxHeartbeats 4000000 in
set_option maxRecDepth 100000 in
theorem k_RuleText_closeGroup (l : Launch) (G : va_G) (K : Nat → ClassId) (a0 a0_parts a0_sequences a0_followers a0_choices a0_set a0_letters : Nat) (sz : Nat) (w_o_noWord : Nat) (w_o_emptyWord : Nat) (v_o_depth : Int32) (v_o_places : Int32) (f_o_parts : (Nat → Option Nat)) (f_o_sequences : (Nat → Option Nat)) (f_o_followers : (Nat → Int32)) (f_o_choices : (Nat → Option Nat)) (LP : (List Nat)) (PF : (Nat → Int32 × Int32 × Int32)) (post : Int32 → Int32 → (Nat → Option Nat) → (Nat → Option Nat) → (Nat → Int32) → (Nat → Option Nat) → (List Nat) → (Nat → Int32 × Int32 × Int32) → Prop) (h : p_RuleText_closeGroup w_o_emptyWord v_o_depth v_o_places f_o_parts f_o_sequences f_o_followers f_o_choices LP PF post) : MWi l y_RuleText_closeGroup (.code y_RuleText_closeGroup c_RuleText_closeGroup 1 (some .boolean)) { frames := 5, cells := 3, slots := 9, locals := 106 } G K ([(a0, .inr (9, [.ref w_o_noWord, .ref w_o_emptyWord, .ref a0_set, .ref a0_choices, .ref a0_sequences, .ref a0_parts, .int v_o_depth, .ref a0_letters, .ref a0_followers, .int v_o_places])), (a0_parts, .inl (K 2, 5, .inr (.inr (.inr (.inr f_o_parts))))), (a0_sequences, .inl (K 2, 5, .inr (.inr (.inr (.inr f_o_sequences))))), (a0_followers, .inl (K 0, 24, .inl f_o_followers)), (a0_choices, .inl (K 2, 5, .inr (.inr (.inr (.inr f_o_choices)))))] ++ va_pl LP (pcs PF)) [] [.ref a0] sz (fun r (u : Int32 × (Nat → Option Nat) × (Nat → Option Nat) × (Nat → Int32) × (Nat → Option Nat) × (List Nat) × (Nat → Int32 × Int32 × Int32)) => post r u.1 u.2.1 u.2.2.1 u.2.2.2.1 u.2.2.2.2.1 u.2.2.2.2.2.1 u.2.2.2.2.2.2) (fun u => ([(a0, .inr (9, [.ref w_o_noWord, .ref w_o_emptyWord, .ref a0_set, .ref a0_choices, .ref a0_sequences, .ref a0_parts, .int u.1, .ref a0_letters, .ref a0_followers, .int v_o_places])), (a0_parts, .inl (K 2, 5, .inr (.inr (.inr (.inr u.2.1))))), (a0_sequences, .inl (K 2, 5, .inr (.inr (.inr (.inr u.2.2.1))))), (a0_followers, .inl (K 0, 24, .inl u.2.2.2.1)), (a0_choices, .inl (K 2, 5, .inr (.inr (.inr (.inr u.2.2.2.2.1)))))] ++ va_pl u.2.2.2.2.2.1 (pcs u.2.2.2.2.2.2))) 3 9 := by
  refine g_metWi (cc := c_RuleText_closeGroup) (maxL := 1) (ret := some .boolean) (rt := .boolean) (by decide) rfl rfl (Nat.le_of_ble_eq_true rfl) ?_
  intro p e s m below meth c A Q hx hb hml hown hname htg hK hN hP hD hA hS hR rN hret ls hl
  have hl : lv_has ls 1 [(0, .ref a0)] := hl
  refine lv_aload_n hx hb d_RuleText_closeGroup_0 rfl (lv_at hl 0 rfl) ?_
  refine va_get (ci := 9) (v := .int v_o_depth) hx hb htg in_RuleText hown hK hP 0 rfl rfl 6 (by decide) (htg _ m_57) (fun _ h9 => h9) rfl d_RuleText_closeGroup_1 ?_
  refine lv_if_eq (tgt := 14) hx hb d_RuleText_closeGroup_4 (by decide) (fun hc => ?_) (fun hc => ?_)
  · replace h := h.1 hc
    refine lv_iconst (v := 0) hx hb d_RuleText_closeGroup_14 (by decide) ?_
    refine W.widen (k := 3) (n := 9) (by decide) (by decide) ?_
    exact hret _ (v_o_depth, f_o_parts, f_o_sequences, f_o_followers, f_o_choices, LP, PF) _ _ _ _ h (by decide +kernel) (hP.part [0, 1, 2, 3, 4] rfl) (hD.part [0, 1, 2, 3, 4] (by decide) rfl) hS d_RuleText_closeGroup_15
  · replace h := h.2 hc
    refine lv_aload_n hx hb d_RuleText_closeGroup_7 rfl (lv_at hl 0 rfl) ?_
    have hPc : va_P G vwCl ([(a0, .inr (9, [.ref w_o_noWord, .ref w_o_emptyWord, .ref a0_set, .ref a0_choices, .ref a0_sequences, .ref a0_parts, .int v_o_depth, .ref a0_letters, .ref a0_followers, .int v_o_places])), (a0_parts, .inl (K 2, 5, .inr (.inr (.inr (.inr f_o_parts))))), (a0_sequences, .inl (K 2, 5, .inr (.inr (.inr (.inr f_o_sequences))))), (a0_followers, .inl (K 0, 24, .inl f_o_followers)), (a0_choices, .inl (K 2, 5, .inr (.inr (.inr (.inr f_o_choices)))))] ++ va_pl LP (pcs PF)) _ := hP.part [0, 1, 2, 3, 4] rfl
    have hDc : va_D A ([(a0, .inr (9, [.ref w_o_noWord, .ref w_o_emptyWord, .ref a0_set, .ref a0_choices, .ref a0_sequences, .ref a0_parts, .int v_o_depth, .ref a0_letters, .ref a0_followers, .int v_o_places])), (a0_parts, .inl (K 2, 5, .inr (.inr (.inr (.inr f_o_parts))))), (a0_sequences, .inl (K 2, 5, .inr (.inr (.inr (.inr f_o_sequences))))), (a0_followers, .inl (K 0, 24, .inl f_o_followers)), (a0_choices, .inl (K 2, 5, .inr (.inr (.inr (.inr f_o_choices)))))] ++ va_pl LP (pcs PF)) := hD.part [0, 1, 2, 3, 4] (by decide) rfl
    have hRc : va_P G vwCl [] _ := hP.sub [] rfl
    have hJc : gJ ([(a0, .inr (9, [.ref w_o_noWord, .ref w_o_emptyWord, .ref a0_set, .ref a0_choices, .ref a0_sequences, .ref a0_parts, .int v_o_depth, .ref a0_letters, .ref a0_followers, .int v_o_places])), (a0_parts, .inl (K 2, 5, .inr (.inr (.inr (.inr f_o_parts))))), (a0_sequences, .inl (K 2, 5, .inr (.inr (.inr (.inr f_o_sequences))))), (a0_followers, .inl (K 0, 24, .inl f_o_followers)), (a0_choices, .inl (K 2, 5, .inr (.inr (.inr (.inr f_o_choices)))))] ++ va_pl LP (pcs PF)) [] := gJ_nil
    refine g_calliP (wr := []) (va_runV (As := []) (rest := []) ⟨hx, hb, hml, hown, htg⟩ (k_RuleText_endSequence l G K a0 a0_parts a0_sequences a0_followers a0_choices a0_set a0_letters _ w_o_noWord w_o_emptyWord v_o_depth v_o_places f_o_parts f_o_sequences f_o_followers f_o_choices LP PF _ h) (cwV 0 htg (gGoodV m_275 m_276 m_862 m_2 m_277) rfl rfl rfl (by decide +kernel) ⟨(Nat.le_of_ble_eq_true rfl), (Nat.le_of_ble_eq_true rfl)⟩) (gW_preV (ci := 9) (q0 := 0) hK hN hPc hDc hRc hJc hPc rfl rfl) rfl rfl hl.1 rfl (lv_room (Nat.le_of_ble_eq_true rfl)) d_RuleText_closeGroup_8 ⟨(Nat.le_of_ble_eq_true rfl), (Nat.le_of_ble_eq_true rfl)⟩) hP hD hS hA [0, 1, 2, 3, 4] [] rfl rfl (by decide) (by decide) (fun r7 u H locs h hP hD hS => ?_)
    obtain ⟨u1, u2, u3, u4, u5, u6⟩ := u
    try dsimp only at h
    have hP : va_P G vwCl ([(a0, .inr (9, [.ref w_o_noWord, .ref w_o_emptyWord, .ref a0_set, .ref a0_choices, .ref a0_sequences, .ref a0_parts, .int v_o_depth, .ref a0_letters, .ref a0_followers, .int v_o_places])), (a0_parts, .inl (K 2, 5, .inr (.inr (.inr (.inr u1))))), (a0_sequences, .inl (K 2, 5, .inr (.inr (.inr (.inr u2))))), (a0_followers, .inl (K 0, 24, .inl u3)), (a0_choices, .inl (K 2, 5, .inr (.inr (.inr (.inr u4)))))] ++ va_pl u5 (pcs u6)) H := hP
    have hD : va_D A ([(a0, .inr (9, [.ref w_o_noWord, .ref w_o_emptyWord, .ref a0_set, .ref a0_choices, .ref a0_sequences, .ref a0_parts, .int v_o_depth, .ref a0_letters, .ref a0_followers, .int v_o_places])), (a0_parts, .inl (K 2, 5, .inr (.inr (.inr (.inr u1))))), (a0_sequences, .inl (K 2, 5, .inr (.inr (.inr (.inr u2))))), (a0_followers, .inl (K 0, 24, .inl u3)), (a0_choices, .inl (K 2, 5, .inr (.inr (.inr (.inr u4)))))] ++ va_pl u5 (pcs u6)) := hD
    refine lv_if_ne (tgt := 16) hx hb d_RuleText_closeGroup_11 (by decide) (fun hc => ?_) (fun hc => ?_)
    · replace h := h.1 hc
      refine lv_aload_n hx hb d_RuleText_closeGroup_16 rfl (lv_at hl 0 rfl) ?_
      refine lv_dup hx hb d_RuleText_closeGroup_17 rfl ?_
      refine va_get (ci := 9) (v := .int v_o_depth) hx hb htg in_RuleText hown hK hP 0 rfl rfl 6 (by decide) (htg _ m_57) (fun _ h9 => h9) rfl d_RuleText_closeGroup_18 ?_
      refine lv_iconst (v := 1) hx hb d_RuleText_closeGroup_21 (by decide) ?_
      refine lv_isub hx hb d_RuleText_closeGroup_22 ?_
      refine va_put (ci := 9) (v := .int (v_o_depth - 1)) (ty := .int) hx hb htg in_RuleText t_RuleText tok_RuleText nm_RuleText hown hK hP hD hS 0 rfl rfl 6 (by decide) (htg _ m_57) (fun _ h9 => h9) rfl (by decide +kernel) rfl rfl (Nat.le_of_ble_eq_true rfl) d_RuleText_closeGroup_23 (fun H locs hP hD hS => ?_)
      have hP : va_P G vwCl ([(a0, .inr (9, [.ref w_o_noWord, .ref w_o_emptyWord, .ref a0_set, .ref a0_choices, .ref a0_sequences, .ref a0_parts, .int (v_o_depth - 1), .ref a0_letters, .ref a0_followers, .int v_o_places])), (a0_parts, .inl (K 2, 5, .inr (.inr (.inr (.inr u1))))), (a0_sequences, .inl (K 2, 5, .inr (.inr (.inr (.inr u2))))), (a0_followers, .inl (K 0, 24, .inl u3)), (a0_choices, .inl (K 2, 5, .inr (.inr (.inr (.inr u4)))))] ++ va_pl u5 (pcs u6)) H := hP
      have hD : va_D A ([(a0, .inr (9, [.ref w_o_noWord, .ref w_o_emptyWord, .ref a0_set, .ref a0_choices, .ref a0_sequences, .ref a0_parts, .int (v_o_depth - 1), .ref a0_letters, .ref a0_followers, .int v_o_places])), (a0_parts, .inl (K 2, 5, .inr (.inr (.inr (.inr u1))))), (a0_sequences, .inl (K 2, 5, .inr (.inr (.inr (.inr u2))))), (a0_followers, .inl (K 0, 24, .inl u3)), (a0_choices, .inl (K 2, 5, .inr (.inr (.inr (.inr u4)))))] ++ va_pl u5 (pcs u6)) := hD
      refine lv_aload_n hx hb d_RuleText_closeGroup_26 rfl (lv_at hl 0 rfl) ?_
      refine lv_aload_n hx hb d_RuleText_closeGroup_27 rfl (lv_at hl 0 rfl) ?_
      refine va_get (ci := 9) (v := .ref a0_choices) hx hb htg in_RuleText hown hK hP 0 rfl rfl 3 (by decide) (htg _ m_54) (fun _ h9 => h9) rfl d_RuleText_closeGroup_28 ?_
      refine lv_aload_n hx hb d_RuleText_closeGroup_31 rfl (lv_at hl 0 rfl) ?_
      refine va_get (ci := 9) (v := .int (v_o_depth - 1)) hx hb htg in_RuleText hown hK hP 0 rfl rfl 6 (by decide) (htg _ m_57) (fun _ h9 => h9) rfl d_RuleText_closeGroup_32 ?_
      refine lv_iconst (v := 1) hx hb d_RuleText_closeGroup_35 (by decide) ?_
      refine lv_iadd hx hb d_RuleText_closeGroup_36 ?_
      obtain ⟨hin, h⟩ := h
      refine va_aldq hx hb hK hP 4 2 rfl rfl hin d_RuleText_closeGroup_37 ?_
      rcases ho : u4 ((v_o_depth - 1) + 1).toNatClampNeg with _ | z8
      · replace h := h.1 ho
        refine W.eq (g2 := F0 m 38 ls [.null, .ref a0]) rfl ?_
        have hPc : va_P G vwCl ([(a0, .inr (9, [.ref w_o_noWord, .ref w_o_emptyWord, .ref a0_set, .ref a0_choices, .ref a0_sequences, .ref a0_parts, .int (v_o_depth - 1), .ref a0_letters, .ref a0_followers, .int v_o_places])), (a0_parts, .inl (K 2, 5, .inr (.inr (.inr (.inr u1))))), (a0_sequences, .inl (K 2, 5, .inr (.inr (.inr (.inr u2))))), (a0_followers, .inl (K 0, 24, .inl u3))] ++ va_pl u5 (pcs u6)) _ := hP.part [0, 1, 2, 3] rfl
        have hDc : va_D A ([(a0, .inr (9, [.ref w_o_noWord, .ref w_o_emptyWord, .ref a0_set, .ref a0_choices, .ref a0_sequences, .ref a0_parts, .int (v_o_depth - 1), .ref a0_letters, .ref a0_followers, .int v_o_places])), (a0_parts, .inl (K 2, 5, .inr (.inr (.inr (.inr u1))))), (a0_sequences, .inl (K 2, 5, .inr (.inr (.inr (.inr u2))))), (a0_followers, .inl (K 0, 24, .inl u3))] ++ va_pl u5 (pcs u6)) := hD.part [0, 1, 2, 3] (by decide) rfl
        have hRc : va_P G vwCl [] _ := hP.sub [] rfl
        have hJc : gJ ([(a0, .inr (9, [.ref w_o_noWord, .ref w_o_emptyWord, .ref a0_set, .ref a0_choices, .ref a0_sequences, .ref a0_parts, .int (v_o_depth - 1), .ref a0_letters, .ref a0_followers, .int v_o_places])), (a0_parts, .inl (K 2, 5, .inr (.inr (.inr (.inr u1))))), (a0_sequences, .inl (K 2, 5, .inr (.inr (.inr (.inr u2))))), (a0_followers, .inl (K 0, 24, .inl u3))] ++ va_pl u5 (pcs u6)) [] := gJ_nil
        refine g_callvP (wr := [(a0_choices, .inl (K 2, 5, .inr (.inr (.inr (.inr u4)))))]) (va_runV (As := [.null]) (rest := []) ⟨hx, hb, hml, hown, htg⟩ (k_RuleText_addPartN l G K a0 a0_parts a0_sequences a0_followers a0_set a0_choices a0_letters _ w_o_noWord w_o_emptyWord (v_o_depth - 1) v_o_places u1 u2 u3 u5 u6 _ h) (cwV 1 htg (gGoodV m_243 m_244 m_857 m_2 m_245) rfl rfl rfl (by decide +kernel) ⟨(Nat.le_of_ble_eq_true rfl), (Nat.le_of_ble_eq_true rfl)⟩) (gW_preV (ci := 9) (q0 := 0) hK hN hPc hDc hRc hJc hPc rfl rfl) rfl rfl hl.1 rfl (lv_room (Nat.le_of_ble_eq_true rfl)) d_RuleText_closeGroup_38 ⟨(Nat.le_of_ble_eq_true rfl), (Nat.le_of_ble_eq_true rfl)⟩) hP hD hS hA [0, 1, 2, 3] [4] rfl rfl (by decide) (by decide) (fun u H locs h hP hD hS => ?_)
        obtain ⟨u9, u10, u11, u12, u13⟩ := u
        try dsimp only at h
        have hP : va_P G vwCl ([(a0_choices, .inl (K 2, 5, .inr (.inr (.inr (.inr u4))))), (a0, .inr (9, [.ref w_o_noWord, .ref w_o_emptyWord, .ref a0_set, .ref a0_choices, .ref a0_sequences, .ref a0_parts, .int (v_o_depth - 1), .ref a0_letters, .ref a0_followers, .int v_o_places])), (a0_parts, .inl (K 2, 5, .inr (.inr (.inr (.inr u9))))), (a0_sequences, .inl (K 2, 5, .inr (.inr (.inr (.inr u10))))), (a0_followers, .inl (K 0, 24, .inl u11))] ++ va_pl u12 (pcs u13)) H := hP
        have hD : va_D A ([(a0_choices, .inl (K 2, 5, .inr (.inr (.inr (.inr u4))))), (a0, .inr (9, [.ref w_o_noWord, .ref w_o_emptyWord, .ref a0_set, .ref a0_choices, .ref a0_sequences, .ref a0_parts, .int (v_o_depth - 1), .ref a0_letters, .ref a0_followers, .int v_o_places])), (a0_parts, .inl (K 2, 5, .inr (.inr (.inr (.inr u9))))), (a0_sequences, .inl (K 2, 5, .inr (.inr (.inr (.inr u10))))), (a0_followers, .inl (K 0, 24, .inl u11))] ++ va_pl u12 (pcs u13)) := hD
        refine lv_iconst (v := 1) hx hb d_RuleText_closeGroup_41 (by decide) ?_
        exact hret _ ((v_o_depth - 1), u9, u10, u11, u4, u12, u13) _ _ _ _ h (by decide +kernel) (hP.part [1, 2, 3, 4, 0] rfl) (hD.part [1, 2, 3, 4, 0] (by decide) rfl) hS d_RuleText_closeGroup_42
      · replace h := h.2 z8 ho
        refine W.eq (g2 := F0 m 38 ls [.ref z8, .ref a0]) rfl ?_
        have hPc : va_P G vwCl ([(a0, .inr (9, [.ref w_o_noWord, .ref w_o_emptyWord, .ref a0_set, .ref a0_choices, .ref a0_sequences, .ref a0_parts, .int (v_o_depth - 1), .ref a0_letters, .ref a0_followers, .int v_o_places])), (a0_parts, .inl (K 2, 5, .inr (.inr (.inr (.inr u1))))), (a0_sequences, .inl (K 2, 5, .inr (.inr (.inr (.inr u2))))), (a0_followers, .inl (K 0, 24, .inl u3))] ++ va_pl u5 (pcs u6)) _ := hP.part [0, 1, 2, 3] rfl
        have hDc : va_D A ([(a0, .inr (9, [.ref w_o_noWord, .ref w_o_emptyWord, .ref a0_set, .ref a0_choices, .ref a0_sequences, .ref a0_parts, .int (v_o_depth - 1), .ref a0_letters, .ref a0_followers, .int v_o_places])), (a0_parts, .inl (K 2, 5, .inr (.inr (.inr (.inr u1))))), (a0_sequences, .inl (K 2, 5, .inr (.inr (.inr (.inr u2))))), (a0_followers, .inl (K 0, 24, .inl u3))] ++ va_pl u5 (pcs u6)) := hD.part [0, 1, 2, 3] (by decide) rfl
        have hRc : va_P G vwCl [] _ := hP.sub [] rfl
        have hJc : gJ ([(a0, .inr (9, [.ref w_o_noWord, .ref w_o_emptyWord, .ref a0_set, .ref a0_choices, .ref a0_sequences, .ref a0_parts, .int (v_o_depth - 1), .ref a0_letters, .ref a0_followers, .int v_o_places])), (a0_parts, .inl (K 2, 5, .inr (.inr (.inr (.inr u1))))), (a0_sequences, .inl (K 2, 5, .inr (.inr (.inr (.inr u2))))), (a0_followers, .inl (K 0, 24, .inl u3))] ++ va_pl u5 (pcs u6)) [] := gJ_nil
        refine g_callvP (wr := [(a0_choices, .inl (K 2, 5, .inr (.inr (.inr (.inr u4)))))]) (va_runV (As := [.ref z8]) (rest := []) ⟨hx, hb, hml, hown, htg⟩ (k_RuleText_addPart l G K a0 a0_parts a0_sequences a0_followers a0_set a0_choices a0_letters _ w_o_noWord w_o_emptyWord (v_o_depth - 1) v_o_places u1 u2 u3 u5 u6 z8 _ h) (cwV 1 htg (gGoodV m_243 m_244 m_857 m_2 m_245) rfl rfl rfl (by decide +kernel) ⟨(Nat.le_of_ble_eq_true rfl), (Nat.le_of_ble_eq_true rfl)⟩) (gW_preV (ci := 9) (q0 := 0) hK hN hPc hDc hRc hJc hPc rfl rfl) rfl rfl hl.1 rfl (lv_room (Nat.le_of_ble_eq_true rfl)) d_RuleText_closeGroup_38 ⟨(Nat.le_of_ble_eq_true rfl), (Nat.le_of_ble_eq_true rfl)⟩) hP hD hS hA [0, 1, 2, 3] [4] rfl rfl (by decide) (by decide) (fun u H locs h hP hD hS => ?_)
        obtain ⟨u15, u16, u17, u18, u19⟩ := u
        try dsimp only at h
        have hP : va_P G vwCl ([(a0_choices, .inl (K 2, 5, .inr (.inr (.inr (.inr u4))))), (a0, .inr (9, [.ref w_o_noWord, .ref w_o_emptyWord, .ref a0_set, .ref a0_choices, .ref a0_sequences, .ref a0_parts, .int (v_o_depth - 1), .ref a0_letters, .ref a0_followers, .int v_o_places])), (a0_parts, .inl (K 2, 5, .inr (.inr (.inr (.inr u15))))), (a0_sequences, .inl (K 2, 5, .inr (.inr (.inr (.inr u16))))), (a0_followers, .inl (K 0, 24, .inl u17))] ++ va_pl u18 (pcs u19)) H := hP
        have hD : va_D A ([(a0_choices, .inl (K 2, 5, .inr (.inr (.inr (.inr u4))))), (a0, .inr (9, [.ref w_o_noWord, .ref w_o_emptyWord, .ref a0_set, .ref a0_choices, .ref a0_sequences, .ref a0_parts, .int (v_o_depth - 1), .ref a0_letters, .ref a0_followers, .int v_o_places])), (a0_parts, .inl (K 2, 5, .inr (.inr (.inr (.inr u15))))), (a0_sequences, .inl (K 2, 5, .inr (.inr (.inr (.inr u16))))), (a0_followers, .inl (K 0, 24, .inl u17))] ++ va_pl u18 (pcs u19)) := hD
        refine lv_iconst (v := 1) hx hb d_RuleText_closeGroup_41 (by decide) ?_
        exact hret _ ((v_o_depth - 1), u15, u16, u17, u4, u18, u19) _ _ _ _ h (by decide +kernel) (hP.part [1, 2, 3, 4, 0] rfl) (hD.part [1, 2, 3, 4, 0] (by decide) rfl) hS d_RuleText_closeGroup_42
    · replace h := h.2 hc
      refine lv_iconst (v := 0) hx hb d_RuleText_closeGroup_14 (by decide) ?_
      refine W.widen (k := 3) (n := 9) (by decide) (by decide) ?_
      exact hret _ (v_o_depth, u1, u2, u3, u4, u5, u6) _ _ _ _ h (by decide +kernel) (hP.part [0, 1, 2, 3, 4] rfl) (hD.part [0, 1, 2, 3, 4] (by decide) rfl) hS d_RuleText_closeGroup_15
