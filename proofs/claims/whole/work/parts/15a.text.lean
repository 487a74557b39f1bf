theorem d_RuleText_isLetter_0 : decode c_RuleText_isLetter 0 = .ok (.iload_n 0, 1) := by decide +kernel
theorem d_RuleText_isLetter_1 : decode c_RuleText_isLetter 1 = .ok (.ifCond .lt 13, 3) := by decide +kernel
theorem d_RuleText_isLetter_4 : decode c_RuleText_isLetter 4 = .ok (.iload_n 0, 1) := by decide +kernel
theorem d_RuleText_isLetter_5 : decode c_RuleText_isLetter 5 = .ok (.bipush 6, 2) := by decide +kernel
theorem d_RuleText_isLetter_7 : decode c_RuleText_isLetter 7 = .ok (.if_icmp .ge 7, 3) := by decide +kernel
theorem d_RuleText_isLetter_10 : decode c_RuleText_isLetter 10 = .ok (.iconst 1, 1) := by decide +kernel
theorem d_RuleText_isLetter_11 : decode c_RuleText_isLetter 11 = .ok (.goto 4, 3) := by decide +kernel
theorem d_RuleText_isLetter_14 : decode c_RuleText_isLetter 14 = .ok (.iconst 0, 1) := by decide +kernel
theorem d_RuleText_isLetter_15 : decode c_RuleText_isLetter 15 = .ok (.ireturn, 1) := by decide +kernel
theorem d_RuleText_link_0 : decode c_RuleText_link 0 = .ok (.iconst 0, 1) := by decide +kernel
theorem d_RuleText_link_1 : decode c_RuleText_link 1 = .ok (.istore_n 3, 1) := by decide +kernel
theorem d_RuleText_link_2 : decode c_RuleText_link 2 = .ok (.iload_n 3, 1) := by decide +kernel
theorem d_RuleText_link_3 : decode c_RuleText_link 3 = .ok (.aload_n 0, 1) := by decide +kernel
theorem d_RuleText_link_4 : decode c_RuleText_link 4 = .ok (.getfield 51, 3) := by decide +kernel
theorem d_RuleText_link_7 : decode c_RuleText_link 7 = .ok (.if_icmp .ge 27, 3) := by decide +kernel
theorem d_RuleText_link_10 : decode c_RuleText_link 10 = .ok (.iload_n 1, 1) := by decide +kernel
theorem d_RuleText_link_11 : decode c_RuleText_link 11 = .ok (.iload_n 3, 1) := by decide +kernel
theorem d_RuleText_link_12 : decode c_RuleText_link 12 = .ok (.ishr, 1) := by decide +kernel
theorem d_RuleText_link_13 : decode c_RuleText_link 13 = .ok (.iconst 1, 1) := by decide +kernel
theorem d_RuleText_link_14 : decode c_RuleText_link 14 = .ok (.iand, 1) := by decide +kernel
theorem d_RuleText_link_15 : decode c_RuleText_link 15 = .ok (.ifCond .eq 13, 3) := by decide +kernel
theorem d_RuleText_link_18 : decode c_RuleText_link 18 = .ok (.aload_n 0, 1) := by decide +kernel
theorem d_RuleText_link_19 : decode c_RuleText_link 19 = .ok (.getfield 48, 3) := by decide +kernel
theorem d_RuleText_link_22 : decode c_RuleText_link 22 = .ok (.iload_n 3, 1) := by decide +kernel
theorem d_RuleText_link_23 : decode c_RuleText_link 23 = .ok (.dup2, 1) := by decide +kernel
theorem d_RuleText_link_24 : decode c_RuleText_link 24 = .ok (.iaload, 1) := by decide +kernel
theorem d_RuleText_link_25 : decode c_RuleText_link 25 = .ok (.iload_n 2, 1) := by decide +kernel
theorem d_RuleText_link_26 : decode c_RuleText_link 26 = .ok (.ior, 1) := by decide +kernel
theorem d_RuleText_link_27 : decode c_RuleText_link 27 = .ok (.iastore, 1) := by decide +kernel
theorem d_RuleText_link_28 : decode c_RuleText_link 28 = .ok (.iinc 3 1, 3) := by decide +kernel
theorem d_RuleText_link_31 : decode c_RuleText_link 31 = .ok (.goto (-29), 3) := by decide +kernel
theorem d_RuleText_link_34 : decode c_RuleText_link 34 = .ok (.return_, 1) := by decide +kernel
theorem d_RuleText_places_0 : decode c_RuleText_places 0 = .ok (.aload_n 0, 1) := by decide +kernel
theorem d_RuleText_places_1 : decode c_RuleText_places 1 = .ok (.getfield 51, 3) := by decide +kernel
theorem d_RuleText_places_4 : decode c_RuleText_places 4 = .ok (.ireturn, 1) := by decide +kernel
theorem d_RuleText_lettersAt_0 : decode c_RuleText_lettersAt 0 = .ok (.aload_n 0, 1) := by decide +kernel
theorem d_RuleText_lettersAt_1 : decode c_RuleText_lettersAt 1 = .ok (.getfield 44, 3) := by decide +kernel
theorem d_RuleText_lettersAt_4 : decode c_RuleText_lettersAt 4 = .ok (.iload_n 1, 1) := by decide +kernel
theorem d_RuleText_lettersAt_5 : decode c_RuleText_lettersAt 5 = .ok (.iaload, 1) := by decide +kernel
theorem d_RuleText_lettersAt_6 : decode c_RuleText_lettersAt 6 = .ok (.ireturn, 1) := by decide +kernel
theorem d_RuleText_followersOf_0 : decode c_RuleText_followersOf 0 = .ok (.aload_n 0, 1) := by decide +kernel
theorem d_RuleText_followersOf_1 : decode c_RuleText_followersOf 1 = .ok (.getfield 48, 3) := by decide +kernel
theorem d_RuleText_followersOf_4 : decode c_RuleText_followersOf 4 = .ok (.iload_n 1, 1) := by decide +kernel
theorem d_RuleText_followersOf_5 : decode c_RuleText_followersOf 5 = .ok (.iaload, 1) := by decide +kernel
theorem d_RuleText_followersOf_6 : decode c_RuleText_followersOf 6 = .ok (.ireturn, 1) := by decide +kernel
theorem d_RuleText_firstPlaces_0 : decode c_RuleText_firstPlaces 0 = .ok (.aload_n 0, 1) := by decide +kernel
theorem d_RuleText_firstPlaces_1 : decode c_RuleText_firstPlaces 1 = .ok (.getfield 30, 3) := by decide +kernel
theorem d_RuleText_firstPlaces_4 : decode c_RuleText_firstPlaces 4 = .ok (.iconst 0, 1) := by decide +kernel
theorem d_RuleText_firstPlaces_5 : decode c_RuleText_firstPlaces 5 = .ok (.aaload, 1) := by decide +kernel
theorem d_RuleText_firstPlaces_6 : decode c_RuleText_firstPlaces 6 = .ok (.getfield 75, 3) := by decide +kernel
theorem d_RuleText_firstPlaces_9 : decode c_RuleText_firstPlaces 9 = .ok (.ireturn, 1) := by decide +kernel
theorem d_RuleText_lastPlaces_0 : decode c_RuleText_lastPlaces 0 = .ok (.aload_n 0, 1) := by decide +kernel
theorem d_RuleText_lastPlaces_1 : decode c_RuleText_lastPlaces 1 = .ok (.getfield 30, 3) := by decide +kernel
theorem d_RuleText_lastPlaces_4 : decode c_RuleText_lastPlaces 4 = .ok (.iconst 0, 1) := by decide +kernel
theorem d_RuleText_lastPlaces_5 : decode c_RuleText_lastPlaces 5 = .ok (.aaload, 1) := by decide +kernel
theorem d_RuleText_lastPlaces_6 : decode c_RuleText_lastPlaces 6 = .ok (.getfield 78, 3) := by decide +kernel
theorem d_RuleText_lastPlaces_9 : decode c_RuleText_lastPlaces 9 = .ok (.ireturn, 1) := by decide +kernel
theorem d_RuleText_addPart_0 : decode c_RuleText_addPart 0 = .ok (.aload_n 0, 1) := by decide +kernel
theorem d_RuleText_addPart_1 : decode c_RuleText_addPart 1 = .ok (.getfield 37, 3) := by decide +kernel
theorem d_RuleText_addPart_4 : decode c_RuleText_addPart 4 = .ok (.aload_n 0, 1) := by decide +kernel
theorem d_RuleText_addPart_5 : decode c_RuleText_addPart 5 = .ok (.getfield 40, 3) := by decide +kernel
theorem d_RuleText_addPart_8 : decode c_RuleText_addPart 8 = .ok (.aaload, 1) := by decide +kernel
theorem d_RuleText_addPart_9 : decode c_RuleText_addPart 9 = .ok (.astore_n 2, 1) := by decide +kernel
theorem d_RuleText_addPart_10 : decode c_RuleText_addPart 10 = .ok (.aload_n 2, 1) := by decide +kernel
theorem d_RuleText_addPart_11 : decode c_RuleText_addPart 11 = .ok (.ifnull 45, 3) := by decide +kernel
theorem d_RuleText_addPart_14 : decode c_RuleText_addPart 14 = .ok (.aload_n 0, 1) := by decide +kernel
theorem d_RuleText_addPart_15 : decode c_RuleText_addPart 15 = .ok (.aload_n 0, 1) := by decide +kernel
theorem d_RuleText_addPart_16 : decode c_RuleText_addPart 16 = .ok (.getfield 34, 3) := by decide +kernel
theorem d_RuleText_addPart_19 : decode c_RuleText_addPart 19 = .ok (.aload_n 0, 1) := by decide +kernel
theorem d_RuleText_addPart_20 : decode c_RuleText_addPart 20 = .ok (.getfield 40, 3) := by decide +kernel
theorem d_RuleText_addPart_23 : decode c_RuleText_addPart 23 = .ok (.aaload, 1) := by decide +kernel
theorem d_RuleText_addPart_24 : decode c_RuleText_addPart 24 = .ok (.getfield 78, 3) := by decide +kernel
theorem d_RuleText_addPart_27 : decode c_RuleText_addPart 27 = .ok (.aload_n 2, 1) := by decide +kernel
theorem d_RuleText_addPart_28 : decode c_RuleText_addPart 28 = .ok (.getfield 75, 3) := by decide +kernel
theorem d_RuleText_addPart_31 : decode c_RuleText_addPart 31 = .ok (.invokevirtual 123, 3) := by decide +kernel
theorem d_RuleText_addPart_34 : decode c_RuleText_addPart 34 = .ok (.aload_n 0, 1) := by decide +kernel
theorem d_RuleText_addPart_35 : decode c_RuleText_addPart 35 = .ok (.getfield 34, 3) := by decide +kernel
theorem d_RuleText_addPart_38 : decode c_RuleText_addPart 38 = .ok (.aload_n 0, 1) := by decide +kernel
theorem d_RuleText_addPart_39 : decode c_RuleText_addPart 39 = .ok (.getfield 40, 3) := by decide +kernel
theorem d_RuleText_addPart_42 : decode c_RuleText_addPart 42 = .ok (.aload_n 0, 1) := by decide +kernel
theorem d_RuleText_addPart_43 : decode c_RuleText_addPart 43 = .ok (.getfield 34, 3) := by decide +kernel
theorem d_RuleText_addPart_46 : decode c_RuleText_addPart 46 = .ok (.aload_n 0, 1) := by decide +kernel
theorem d_RuleText_addPart_47 : decode c_RuleText_addPart 47 = .ok (.getfield 40, 3) := by decide +kernel
theorem d_RuleText_addPart_50 : decode c_RuleText_addPart 50 = .ok (.aaload, 1) := by decide +kernel
theorem d_RuleText_addPart_51 : decode c_RuleText_addPart 51 = .ok (.aload_n 2, 1) := by decide +kernel
theorem d_RuleText_addPart_52 : decode c_RuleText_addPart 52 = .ok (.invokevirtual 127, 3) := by decide +kernel
theorem d_RuleText_addPart_55 : decode c_RuleText_addPart 55 = .ok (.aastore, 1) := by decide +kernel
theorem d_RuleText_addPart_56 : decode c_RuleText_addPart 56 = .ok (.aload_n 0, 1) := by decide +kernel
theorem d_RuleText_addPart_57 : decode c_RuleText_addPart 57 = .ok (.getfield 37, 3) := by decide +kernel
theorem d_RuleText_addPart_60 : decode c_RuleText_addPart 60 = .ok (.aload_n 0, 1) := by decide +kernel
theorem d_RuleText_addPart_61 : decode c_RuleText_addPart 61 = .ok (.getfield 40, 3) := by decide +kernel
theorem d_RuleText_addPart_64 : decode c_RuleText_addPart 64 = .ok (.aload_n 1, 1) := by decide +kernel
theorem d_RuleText_addPart_65 : decode c_RuleText_addPart 65 = .ok (.aastore, 1) := by decide +kernel
theorem d_RuleText_addPart_66 : decode c_RuleText_addPart 66 = .ok (.return_, 1) := by decide +kernel
theorem d_RuleText_openLevel_0 : decode c_RuleText_openLevel 0 = .ok (.aload_n 0, 1) := by decide +kernel
theorem d_RuleText_openLevel_1 : decode c_RuleText_openLevel 1 = .ok (.iload_n 1, 1) := by decide +kernel
theorem d_RuleText_openLevel_2 : decode c_RuleText_openLevel 2 = .ok (.putfield 40, 3) := by decide +kernel
theorem d_RuleText_openLevel_5 : decode c_RuleText_openLevel 5 = .ok (.aload_n 0, 1) := by decide +kernel
theorem d_RuleText_openLevel_6 : decode c_RuleText_openLevel 6 = .ok (.getfield 30, 3) := by decide +kernel
theorem d_RuleText_openLevel_9 : decode c_RuleText_openLevel 9 = .ok (.iload_n 1, 1) := by decide +kernel
theorem d_RuleText_openLevel_10 : decode c_RuleText_openLevel 10 = .ok (.aload_n 0, 1) := by decide +kernel
theorem d_RuleText_openLevel_11 : decode c_RuleText_openLevel 11 = .ok (.getfield 14, 3) := by decide +kernel
theorem d_RuleText_openLevel_14 : decode c_RuleText_openLevel 14 = .ok (.aastore, 1) := by decide +kernel
theorem d_RuleText_openLevel_15 : decode c_RuleText_openLevel 15 = .ok (.aload_n 0, 1) := by decide +kernel
theorem d_RuleText_openLevel_16 : decode c_RuleText_openLevel 16 = .ok (.getfield 34, 3) := by decide +kernel
theorem d_RuleText_openLevel_19 : decode c_RuleText_openLevel 19 = .ok (.iload_n 1, 1) := by decide +kernel
theorem d_RuleText_openLevel_20 : decode c_RuleText_openLevel 20 = .ok (.aload_n 0, 1) := by decide +kernel
theorem d_RuleText_openLevel_21 : decode c_RuleText_openLevel 21 = .ok (.getfield 20, 3) := by decide +kernel
theorem d_RuleText_openLevel_24 : decode c_RuleText_openLevel 24 = .ok (.aastore, 1) := by decide +kernel
theorem d_RuleText_openLevel_25 : decode c_RuleText_openLevel 25 = .ok (.aload_n 0, 1) := by decide +kernel
theorem d_RuleText_openLevel_26 : decode c_RuleText_openLevel 26 = .ok (.getfield 37, 3) := by decide +kernel
theorem d_RuleText_openLevel_29 : decode c_RuleText_openLevel 29 = .ok (.iload_n 1, 1) := by decide +kernel
theorem d_RuleText_openLevel_30 : decode c_RuleText_openLevel 30 = .ok (.aconst_null, 1) := by decide +kernel
theorem d_RuleText_openLevel_31 : decode c_RuleText_openLevel 31 = .ok (.aastore, 1) := by decide +kernel
theorem d_RuleText_openLevel_32 : decode c_RuleText_openLevel 32 = .ok (.return_, 1) := by decide +kernel
def p_RuleText_isLetter (x0 : Int32) (post : Int32 → Prop) : Prop := ((x0 < 0 → (post 0)) ∧ (¬ x0 < 0 → ((6 ≤ x0 → (post 0)) ∧ (¬ 6 ≤ x0 → (post 1)))))
set_option maxHeartbeats 4000000 in
set_option maxRecDepth 100000 in
theorem k_RuleText_isLetter (l : Launch) (G : va_G) (K : Nat → ClassId)  (x0 : Int32) (post : Int32 → Prop) (h : p_RuleText_isLetter x0 post) : MSi l y_RuleText_isLetter (.code y_RuleText_isLetter c_RuleText_isLetter 1 (some .boolean)) { frames := 0, cells := 0, slots := 0, locals := 0 } G K [] [.int x0] post := by
  refine g_metSi (cc := c_RuleText_isLetter) (maxL := 1) (ret := some .boolean) (rt := .boolean) (by decide) rfl rfl (Nat.le_of_ble_eq_true rfl) ?_
  intro p e s m below meth c Q hx hb hml hown htg hK hN hP hret ls hl
  have hl : lv_has ls 1 [(0, .int x0)] := hl
  refine lv_iload_n hx hb d_RuleText_isLetter_0 rfl (lv_at hl 0 rfl) ?_
  refine lv_if_lt (tgt := 14) hx hb d_RuleText_isLetter_1 (by decide) (fun hc => ?_) (fun hc => ?_)
  · replace h := h.1 hc
    refine lv_iconst (v := 0) hx hb d_RuleText_isLetter_14 (by decide) ?_
    exact hret _ _ _ h (by decide +kernel) d_RuleText_isLetter_15
  · replace h := h.2 hc
    refine lv_iload_n hx hb d_RuleText_isLetter_4 rfl (lv_at hl 0 rfl) ?_
    refine lv_bipush (v := 6) hx hb d_RuleText_isLetter_5 (by decide) ?_
    refine lv_icmp_ge (tgt := 14) hx hb d_RuleText_isLetter_7 (by decide) (fun hc => ?_) (fun hc => ?_)
    · replace h := h.1 hc
      refine lv_iconst (v := 0) hx hb d_RuleText_isLetter_14 (by decide) ?_
      exact hret _ _ _ h (by decide +kernel) d_RuleText_isLetter_15
    · replace h := h.2 hc
      refine lv_iconst (v := 1) hx hb d_RuleText_isLetter_10 (by decide) ?_
      refine lv_goto (tgt := 15) hx hb d_RuleText_isLetter_11 (by decide) ?_
      exact hret _ _ _ h (by decide +kernel) d_RuleText_isLetter_15
def p_RuleText_link_2 (v_o_places : Int32) (x1 : Int32) (x2 : Int32) (post : (Nat → Int32) → Prop) : Nat → Int32 → (Nat → Int32) → Prop
  | 0, _, _ => False
  | n + 1, l3, f_o_followers => ((v_o_places ≤ l3 → (post f_o_followers)) ∧ (¬ v_o_places ≤ l3 → ((((x1 >>> (l3 &&& 31)) &&& (1 : Int32)) = 0 → (p_RuleText_link_2 v_o_places x1 x2 post n (l3 + 1) f_o_followers)) ∧ (¬ ((x1 >>> (l3 &&& 31)) &&& (1 : Int32)) = 0 → (vp_in l3 24 ∧ (vp_in l3 24 ∧ (p_RuleText_link_2 v_o_places x1 x2 post n (l3 + 1) (upd f_o_followers l3.toNatClampNeg ((f_o_followers l3.toNatClampNeg) ||| x2)))))))))
def p_RuleText_link (v_o_places : Int32) (f_o_followers : (Nat → Int32)) (x1 : Int32) (x2 : Int32) (post : (Nat → Int32) → Prop) : Prop := (∃ k, p_RuleText_link_2 v_o_places x1 x2 post k 0 f_o_followers)
set_option maxHeartbeats 4000000 in
set_option maxRecDepth 100000 in
theorem k_RuleText_link (l : Launch) (G : va_G) (K : Nat → ClassId) (a0 a0_followers a0_set a0_choices a0_sequences a0_parts a0_letters : Nat) (sz : Nat) (w_o_noWord : Nat) (w_o_emptyWord : Nat) (v_o_depth : Int32) (v_o_places : Int32) (f_o_followers : (Nat → Int32)) (x1 : Int32) (x2 : Int32) (post : (Nat → Int32) → Prop) (h : p_RuleText_link v_o_places f_o_followers x1 x2 post) : MWv l y_RuleText_link (.code y_RuleText_link c_RuleText_link 4 none) { frames := 0, cells := 0, slots := 0, locals := 0 } G K [(a0_followers, .inl (K 0, 24, .inl f_o_followers))] [(a0, .inr (9, [.ref w_o_noWord, .ref w_o_emptyWord, .ref a0_set, .ref a0_choices, .ref a0_sequences, .ref a0_parts, .int v_o_depth, .ref a0_letters, .ref a0_followers, .int v_o_places]))] [.ref a0, .int x1, .int x2] sz (fun (u : (Nat → Int32)) => post u) (fun u => [(a0_followers, .inl (K 0, 24, .inl u))]) 0 0 := by
  refine g_metWv (cc := c_RuleText_link) (maxL := 4) (ret := none) (by decide) rfl rfl (Nat.le_of_ble_eq_true rfl) ?_
  intro p e s m below meth c A Q hx hb hml hown hname htg hK hN hP hD hA hS hR rN hret ls hl
  have hl : lv_has ls 4 [(0, .ref a0), (1, .int x1), (2, .int x2)] := hl
  have C_2 : ∀ (n : Nat) (l3 : Int32) (f_o_followers : (Nat → Int32)) (H : Heap) (locs : List Loc), va_P G vwCl [(a0_followers, .inl (K 0, 24, .inl f_o_followers))] H → va_D A [(a0_followers, .inl (K 0, 24, .inl f_o_followers))] → va_S A s.heap H locs → ∀ (ls : Array Slot), lv_has ls 4 [(0, .ref a0), (1, .int x1), (2, .int x2), (3, .int l3)] → p_RuleText_link_2 v_o_places x1 x2 post n l3 f_o_followers → W p l e { frames := 0, cells := 0, slots := 0, locals := 0 } s m ([.ref a0, .int x1, .int x2] : List Value).toArray below meth c H locs 0 0 Q (F0 m 2 ls []) := by
    intro n
    induction n with
    | zero =>
      intro l3 f_o_followers  H locs hP hD hS ls hl h
      exact False.elim h
    | succ n ih =>
      intro l3 f_o_followers  H locs hP hD hS ls hl h
      refine lv_iload_n hx hb d_RuleText_link_2 rfl (lv_at hl 3 rfl) ?_
      refine lv_aload_n hx hb d_RuleText_link_3 rfl (lv_at hl 0 rfl) ?_
      refine va_get (ci := 9) (v := .int v_o_places) hx hb htg in_RuleText hown hK (gR hR rN hS) 0 rfl rfl 9 (by decide) (htg _ m_60) (fun _ h9 => h9) rfl d_RuleText_link_4 ?_
      refine lv_icmp_ge (tgt := 34) hx hb d_RuleText_link_7 (by decide) (fun hc => ?_) (fun hc => ?_)
      · replace h := h.1 hc
        exact hret f_o_followers _ _ _ _ h (hP.sub [0] rfl) (hD.sub [0] (by decide) rfl) hS d_RuleText_link_34
      · replace h := h.2 hc
        refine lv_iload_n hx hb d_RuleText_link_10 rfl (lv_at hl 1 rfl) ?_
        refine lv_iload_n hx hb d_RuleText_link_11 rfl (lv_at hl 3 rfl) ?_
        refine lv_ishr hx hb d_RuleText_link_12 ?_
        refine lv_iconst (v := 1) hx hb d_RuleText_link_13 (by decide) ?_
        refine lv_iand hx hb d_RuleText_link_14 ?_
        refine lv_if_eq (tgt := 28) hx hb d_RuleText_link_15 (by decide) (fun hc => ?_) (fun hc => ?_)
        · replace h := h.1 hc
          refine lv_iinc (v := (l3 + 1)) (lv' := [(3, .int (l3 + 1)), (0, .ref a0), (1, .int x1), (2, .int x2)]) hx hb d_RuleText_link_28 hl (k := 3) rfl (by first | rfl | decide) (by decide) rfl (fun ls hl => ?_)
          refine lv_goto (tgt := 2) hx hb d_RuleText_link_31 (by decide) ?_
          exact ih (l3 + 1) f_o_followers  _ _ (hP.sub [0] rfl) (hD.sub [0] (by decide) rfl) hS _ (lv_sub hl [1, 2, 3, 0] rfl) h
        · replace h := h.2 hc
          refine lv_aload_n hx hb d_RuleText_link_18 rfl (lv_at hl 0 rfl) ?_
          refine va_get (ci := 9) (v := .ref a0_followers) hx hb htg in_RuleText hown hK (gR hR rN hS) 0 rfl rfl 8 (by decide) (htg _ m_59) (fun _ h9 => h9) rfl d_RuleText_link_19 ?_
          refine lv_iload_n hx hb d_RuleText_link_22 rfl (lv_at hl 3 rfl) ?_
          refine lv_dup2_11 hx hb d_RuleText_link_23 rfl rfl ?_
          obtain ⟨hin, h⟩ := h
          refine va_iald hx hb hK hP 0 0 rfl rfl hin d_RuleText_link_24 ?_
          refine lv_iload_n hx hb d_RuleText_link_25 rfl (lv_at hl 2 rfl) ?_
          refine lv_ior hx hb d_RuleText_link_26 ?_
          obtain ⟨hin, h⟩ := h
          refine va_iast hx hb hK hP hD hS 0 0 rfl rfl hin d_RuleText_link_27 (fun H locs hP hD hS => ?_)
          have hP : va_P G vwCl [(a0_followers, .inl (K 0, 24, .inl (upd f_o_followers l3.toNatClampNeg ((f_o_followers l3.toNatClampNeg) ||| x2))))] H := hP
          have hD : va_D A [(a0_followers, .inl (K 0, 24, .inl (upd f_o_followers l3.toNatClampNeg ((f_o_followers l3.toNatClampNeg) ||| x2))))] := hD
          refine lv_iinc (v := (l3 + 1)) (lv' := [(3, .int (l3 + 1)), (0, .ref a0), (1, .int x1), (2, .int x2)]) hx hb d_RuleText_link_28 hl (k := 3) rfl (by first | rfl | decide) (by decide) rfl (fun ls hl => ?_)
          refine lv_goto (tgt := 2) hx hb d_RuleText_link_31 (by decide) ?_
          exact ih (l3 + 1) (upd f_o_followers l3.toNatClampNeg ((f_o_followers l3.toNatClampNeg) ||| x2))  _ _ (hP.sub [0] rfl) (hD.sub [0] (by decide) rfl) hS _ (lv_sub hl [1, 2, 3, 0] rfl) h
  refine lv_iconst (v := 0) hx hb d_RuleText_link_0 (by decide) ?_
  refine lv_istore_n (lv' := [(3, .int 0), (0, .ref a0), (1, .int x1), (2, .int x2)]) hx hb d_RuleText_link_1 rfl hl (by decide) rfl (fun ls hl => ?_)
  obtain ⟨k, h⟩ := h
  exact C_2 k 0 f_o_followers  _ _ (hP.sub [0] rfl) (hD.sub [0] (by decide) rfl) hS _ (lv_sub hl [1, 2, 3, 0] rfl) h
def p_RuleText_places (v_o_places : Int32) (post : Int32 → Prop) : Prop := (post v_o_places)
set_option maxHeartbeats 4000000 in
set_option maxRecDepth 100000 in
theorem k_RuleText_places (l : Launch) (G : va_G) (K : Nat → ClassId) (a0 a0_set a0_choices a0_sequences a0_parts a0_letters a0_followers : Nat) (w_o_noWord : Nat) (w_o_emptyWord : Nat) (v_o_depth : Int32) (v_o_places : Int32) (post : Int32 → Prop) (h : p_RuleText_places v_o_places post) : MSi l y_RuleText_places (.code y_RuleText_places c_RuleText_places 1 (some .int)) { frames := 0, cells := 0, slots := 0, locals := 0 } G K [(a0, .inr (9, [.ref w_o_noWord, .ref w_o_emptyWord, .ref a0_set, .ref a0_choices, .ref a0_sequences, .ref a0_parts, .int v_o_depth, .ref a0_letters, .ref a0_followers, .int v_o_places]))] [.ref a0] post := by
  refine g_metSi (cc := c_RuleText_places) (maxL := 1) (ret := some .int) (rt := .int) (by decide) rfl rfl (Nat.le_of_ble_eq_true rfl) ?_
  intro p e s m below meth c Q hx hb hml hown htg hK hN hP hret ls hl
  have hl : lv_has ls 1 [(0, .ref a0)] := hl
  refine lv_aload_n hx hb d_RuleText_places_0 rfl (lv_at hl 0 rfl) ?_
  refine va_get (ci := 9) (v := .int v_o_places) hx hb htg in_RuleText hown hK hP 0 rfl rfl 9 (by decide) (htg _ m_60) (fun _ h9 => h9) rfl d_RuleText_places_1 ?_
  exact hret _ _ _ h (vp_nar_int _) d_RuleText_places_4
def p_RuleText_lettersAt (f_o_letters : (Nat → Int32)) (x1 : Int32) (post : Int32 → Prop) : Prop := (vp_in x1 24 ∧ (post (f_o_letters x1.toNatClampNeg)))
set_option maxHeartbeats 4000000 in
set_option maxRecDepth 100000 in
theorem k_RuleText_lettersAt (l : Launch) (G : va_G) (K : Nat → ClassId) (a0 a0_letters a0_set a0_choices a0_sequences a0_parts a0_followers : Nat) (w_o_noWord : Nat) (w_o_emptyWord : Nat) (v_o_depth : Int32) (v_o_places : Int32) (f_o_letters : (Nat → Int32)) (x1 : Int32) (post : Int32 → Prop) (h : p_RuleText_lettersAt f_o_letters x1 post) : MSi l y_RuleText_lettersAt (.code y_RuleText_lettersAt c_RuleText_lettersAt 2 (some .int)) { frames := 0, cells := 0, slots := 0, locals := 0 } G K [(a0, .inr (9, [.ref w_o_noWord, .ref w_o_emptyWord, .ref a0_set, .ref a0_choices, .ref a0_sequences, .ref a0_parts, .int v_o_depth, .ref a0_letters, .ref a0_followers, .int v_o_places])), (a0_letters, .inl (K 0, 24, .inl f_o_letters))] [.ref a0, .int x1] post := by
  refine g_metSi (cc := c_RuleText_lettersAt) (maxL := 2) (ret := some .int) (rt := .int) (by decide) rfl rfl (Nat.le_of_ble_eq_true rfl) ?_
  intro p e s m below meth c Q hx hb hml hown htg hK hN hP hret ls hl
  have hl : lv_has ls 2 [(0, .ref a0), (1, .int x1)] := hl
  refine lv_aload_n hx hb d_RuleText_lettersAt_0 rfl (lv_at hl 0 rfl) ?_
  refine va_get (ci := 9) (v := .ref a0_letters) hx hb htg in_RuleText hown hK hP 0 rfl rfl 7 (by decide) (htg _ m_58) (fun _ h9 => h9) rfl d_RuleText_lettersAt_1 ?_
  refine lv_iload_n hx hb d_RuleText_lettersAt_4 rfl (lv_at hl 1 rfl) ?_
  obtain ⟨hin, h⟩ := h
  refine va_iald hx hb hK hP 1 0 rfl rfl hin d_RuleText_lettersAt_5 ?_
  exact hret _ _ _ h (vp_nar_int _) d_RuleText_lettersAt_6
def p_RuleText_followersOf (f_o_followers : (Nat → Int32)) (x1 : Int32) (post : Int32 → Prop) : Prop := (vp_in x1 24 ∧ (post (f_o_followers x1.toNatClampNeg)))
set_option maxHeartbeats 4000000 in
set_option maxRecDepth 100000 in
theorem k_RuleText_followersOf (l : Launch) (G : va_G) (K : Nat → ClassId) (a0 a0_followers a0_set a0_choices a0_sequences a0_parts a0_letters : Nat) (w_o_noWord : Nat) (w_o_emptyWord : Nat) (v_o_depth : Int32) (v_o_places : Int32) (f_o_followers : (Nat → Int32)) (x1 : Int32) (post : Int32 → Prop) (h : p_RuleText_followersOf f_o_followers x1 post) : MSi l y_RuleText_followersOf (.code y_RuleText_followersOf c_RuleText_followersOf 2 (some .int)) { frames := 0, cells := 0, slots := 0, locals := 0 } G K [(a0, .inr (9, [.ref w_o_noWord, .ref w_o_emptyWord, .ref a0_set, .ref a0_choices, .ref a0_sequences, .ref a0_parts, .int v_o_depth, .ref a0_letters, .ref a0_followers, .int v_o_places])), (a0_followers, .inl (K 0, 24, .inl f_o_followers))] [.ref a0, .int x1] post := by
  refine g_metSi (cc := c_RuleText_followersOf) (maxL := 2) (ret := some .int) (rt := .int) (by decide) rfl rfl (Nat.le_of_ble_eq_true rfl) ?_
  intro p e s m below meth c Q hx hb hml hown htg hK hN hP hret ls hl
  have hl : lv_has ls 2 [(0, .ref a0), (1, .int x1)] := hl
  refine lv_aload_n hx hb d_RuleText_followersOf_0 rfl (lv_at hl 0 rfl) ?_
  refine va_get (ci := 9) (v := .ref a0_followers) hx hb htg in_RuleText hown hK hP 0 rfl rfl 8 (by decide) (htg _ m_59) (fun _ h9 => h9) rfl d_RuleText_followersOf_1 ?_
  refine lv_iload_n hx hb d_RuleText_followersOf_4 rfl (lv_at hl 1 rfl) ?_
  obtain ⟨hin, h⟩ := h
  refine va_iald hx hb hK hP 1 0 rfl rfl hin d_RuleText_followersOf_5 ?_
  exact hret _ _ _ h (vp_nar_int _) d_RuleText_followersOf_6
def p_RuleText_firstPlaces (f_o_choices : (Nat → Option Nat)) (LP : (List Nat)) (PF : (Nat → Int32 × Int32 × Int32)) (post : Int32 → Prop) : Prop := (vp_in 0 5 ∧ ((f_o_choices (0 : Int32).toNatClampNeg = none → False) ∧ (∀ z1, f_o_choices (0 : Int32).toNatClampNeg = some z1 → (z1 ∈ LP ∧ (post ((PF z1).1))))))
set_option maxHeartbeats 4000000 in
set_option maxRecDepth 100000 in
theorem k_RuleText_firstPlaces (l : Launch) (G : va_G) (K : Nat → ClassId) (a0 a0_choices a0_set a0_sequences a0_parts a0_letters a0_followers : Nat) (w_o_noWord : Nat) (w_o_emptyWord : Nat) (v_o_depth : Int32) (v_o_places : Int32) (f_o_choices : (Nat → Option Nat)) (LP : (List Nat)) (PF : (Nat → Int32 × Int32 × Int32)) (post : Int32 → Prop) (h : p_RuleText_firstPlaces f_o_choices LP PF post) : MSi l y_RuleText_firstPlaces (.code y_RuleText_firstPlaces c_RuleText_firstPlaces 1 (some .int)) { frames := 0, cells := 0, slots := 0, locals := 0 } G K ([(a0, .inr (9, [.ref w_o_noWord, .ref w_o_emptyWord, .ref a0_set, .ref a0_choices, .ref a0_sequences, .ref a0_parts, .int v_o_depth, .ref a0_letters, .ref a0_followers, .int v_o_places])), (a0_choices, .inl (K 2, 5, .inr (.inr (.inr (.inr f_o_choices)))))] ++ va_pl LP (pcs PF)) [.ref a0] post := by
  refine g_metSi (cc := c_RuleText_firstPlaces) (maxL := 1) (ret := some .int) (rt := .int) (by decide) rfl rfl (Nat.le_of_ble_eq_true rfl) ?_
  intro p e s m below meth c Q hx hb hml hown htg hK hN hP hret ls hl
  have hl : lv_has ls 1 [(0, .ref a0)] := hl
  refine lv_aload_n hx hb d_RuleText_firstPlaces_0 rfl (lv_at hl 0 rfl) ?_
  refine va_get (ci := 9) (v := .ref a0_choices) hx hb htg in_RuleText hown hK hP 0 rfl rfl 3 (by decide) (htg _ m_54) (fun _ h9 => h9) rfl d_RuleText_firstPlaces_1 ?_
  refine lv_iconst (v := 0) hx hb d_RuleText_firstPlaces_4 (by decide) ?_
  obtain ⟨hin, h⟩ := h
  refine va_aldq hx hb hK hP 1 2 rfl rfl hin d_RuleText_firstPlaces_5 ?_
  rcases ho : f_o_choices (0 : Int32).toNatClampNeg with _ | z1
  · replace h := h.1 ho
    refine W.eq (g2 := F0 m 6 ls [.null]) rfl ?_
    exact False.elim h
  · replace h := h.2 z1 ho
    refine W.eq (g2 := F0 m 6 ls [.ref z1]) rfl ?_
    obtain ⟨hm, h⟩ := h
    obtain ⟨k9, hk9⟩ := va_pl_get (X := [(a0, .inr (9, [.ref w_o_noWord, .ref w_o_emptyWord, .ref a0_set, .ref a0_choices, .ref a0_sequences, .ref a0_parts, .int v_o_depth, .ref a0_letters, .ref a0_followers, .int v_o_places])), (a0_choices, .inl (K 2, 5, .inr (.inr (.inr (.inr f_o_choices)))))]) (f := pcs PF) hm
    refine va_getN (ci := 7) (v := .int ((PF z1).1)) hx hb htg in_Piece hown hK hP k9 hk9 rfl 0 (by decide) (va_Nw.use rfl (hN.1 (.fieldLinkNest "TokenBench$RuleText" 75 "TokenBench$Piece" "first" "I" "TokenBench") (by decide +kernel))) (fun _ h9 => h9) rfl d_RuleText_firstPlaces_6 ?_
    exact hret _ _ _ h (vp_nar_int _) d_RuleText_firstPlaces_9
def p_RuleText_lastPlaces (f_o_choices : (Nat → Option Nat)) (LP : (List Nat)) (PF : (Nat → Int32 × Int32 × Int32)) (post : Int32 → Prop) : Prop := (vp_in 0 5 ∧ ((f_o_choices (0 : Int32).toNatClampNeg = none → False) ∧ (∀ z1, f_o_choices (0 : Int32).toNatClampNeg = some z1 → (z1 ∈ LP ∧ (post ((PF z1).2.1))))))
set_option maxHeartbeats 4000000 in
set_option maxRecDepth 100000 in
theorem k_RuleText_lastPlaces (l : Launch) (G : va_G) (K : Nat → ClassId) (a0 a0_choices a0_set a0_sequences a0_parts a0_letters a0_followers : Nat) (w_o_noWord : Nat) (w_o_emptyWord : Nat) (v_o_depth : Int32) (v_o_places : Int32) (f_o_choices : (Nat → Option Nat)) (LP : (List Nat)) (PF : (Nat → Int32 × Int32 × Int32)) (post : Int32 → Prop) (h : p_RuleText_lastPlaces f_o_choices LP PF post) : MSi l y_RuleText_lastPlaces (.code y_RuleText_lastPlaces c_RuleText_lastPlaces 1 (some .int)) { frames := 0, cells := 0, slots := 0, locals := 0 } G K ([(a0, .inr (9, [.ref w_o_noWord, .ref w_o_emptyWord, .ref a0_set, .ref a0_choices, .ref a0_sequences, .ref a0_parts, .int v_o_depth, .ref a0_letters, .ref a0_followers, .int v_o_places])), (a0_choices, .inl (K 2, 5, .inr (.inr (.inr (.inr f_o_choices)))))] ++ va_pl LP (pcs PF)) [.ref a0] post := by
  refine g_metSi (cc := c_RuleText_lastPlaces) (maxL := 1) (ret := some .int) (rt := .int) (by decide) rfl rfl (Nat.le_of_ble_eq_true rfl) ?_
  intro p e s m below meth c Q hx hb hml hown htg hK hN hP hret ls hl
  have hl : lv_has ls 1 [(0, .ref a0)] := hl
  refine lv_aload_n hx hb d_RuleText_lastPlaces_0 rfl (lv_at hl 0 rfl) ?_
  refine va_get (ci := 9) (v := .ref a0_choices) hx hb htg in_RuleText hown hK hP 0 rfl rfl 3 (by decide) (htg _ m_54) (fun _ h9 => h9) rfl d_RuleText_lastPlaces_1 ?_
  refine lv_iconst (v := 0) hx hb d_RuleText_lastPlaces_4 (by decide) ?_
  obtain ⟨hin, h⟩ := h
  refine va_aldq hx hb hK hP 1 2 rfl rfl hin d_RuleText_lastPlaces_5 ?_
  rcases ho : f_o_choices (0 : Int32).toNatClampNeg with _ | z1
  · replace h := h.1 ho
    refine W.eq (g2 := F0 m 6 ls [.null]) rfl ?_
    exact False.elim h
  · replace h := h.2 z1 ho
    refine W.eq (g2 := F0 m 6 ls [.ref z1]) rfl ?_
    obtain ⟨hm, h⟩ := h
    obtain ⟨k9, hk9⟩ := va_pl_get (X := [(a0, .inr (9, [.ref w_o_noWord, .ref w_o_emptyWord, .ref a0_set, .ref a0_choices, .ref a0_sequences, .ref a0_parts, .int v_o_depth, .ref a0_letters, .ref a0_followers, .int v_o_places])), (a0_choices, .inl (K 2, 5, .inr (.inr (.inr (.inr f_o_choices)))))]) (f := pcs PF) hm
    refine va_getN (ci := 7) (v := .int ((PF z1).2.1)) hx hb htg in_Piece hown hK hP k9 hk9 rfl 1 (by decide) (va_Nw.use rfl (hN.1 (.fieldLinkNest "TokenBench$RuleText" 78 "TokenBench$Piece" "last" "I" "TokenBench") (by decide +kernel))) (fun _ h9 => h9) rfl d_RuleText_lastPlaces_6 ?_
    exact hret _ _ _ h (vp_nar_int _) d_RuleText_lastPlaces_9
def p_RuleText_addPartN (v_o_depth : Int32) (v_o_places : Int32) (f_o_parts : (Nat → Option Nat)) (f_o_sequences : (Nat → Option Nat)) (f_o_followers : (Nat → Int32)) (LP : (List Nat)) (PF : (Nat → Int32 × Int32 × Int32)) (post : (Nat → Option Nat) → (Nat → Option Nat) → (Nat → Int32) → (List Nat) → (Nat → Int32 × Int32 × Int32) → Prop) : Prop := (vp_in v_o_depth 5 ∧ ((f_o_parts v_o_depth.toNatClampNeg = none → (vp_in v_o_depth 5 ∧ (post (va_up f_o_parts v_o_depth.toNatClampNeg none) f_o_sequences f_o_followers LP PF))) ∧ (∀ z1, f_o_parts v_o_depth.toNatClampNeg = some z1 → (vp_in v_o_depth 5 ∧ ((f_o_sequences v_o_depth.toNatClampNeg = none → False) ∧ (∀ z2, f_o_sequences v_o_depth.toNatClampNeg = some z2 → (z2 ∈ LP ∧ (z1 ∈ LP ∧ (p_RuleText_link v_o_places f_o_followers ((PF z2).2.1) ((PF z1).1) (fun u3 => (vp_in v_o_depth 5 ∧ ((f_o_sequences v_o_depth.toNatClampNeg = none → False) ∧ (∀ z5, f_o_sequences v_o_depth.toNatClampNeg = some z5 → (z5 ∈ LP ∧ z1 ∈ LP ∧ p_Piece_then (PF z5).1 (PF z5).2.1 (PF z5).2.2 (PF z1).1 (PF z1).2.1 (PF z1).2.2 (fun u7 u8 u9 => ∀ q6, q6 ∉ LP → (vp_in v_o_depth 5 ∧ (q6 ∈ (LP ++ [q6]) ∧ (vp_in v_o_depth 5 ∧ (post (va_up f_o_parts v_o_depth.toNatClampNeg none) (va_up f_o_sequences v_o_depth.toNatClampNeg (some q6)) u3 (LP ++ [q6]) (va_up PF q6 (u7, u8, u9)))))))))))))))))))))
set_option maxHeartbeats 4000000 in
set_option maxRecDepth 100000 in
theorem k_RuleText_addPartN (l : Launch) (G : va_G) (K : Nat → ClassId) (a0 a0_parts a0_sequences a0_followers a0_set a0_choices a0_letters : Nat) (sz : Nat) (w_o_noWord : Nat) (w_o_emptyWord : Nat) (v_o_depth : Int32) (v_o_places : Int32) (f_o_parts : (Nat → Option Nat)) (f_o_sequences : (Nat → Option Nat)) (f_o_followers : (Nat → Int32)) (LP : (List Nat)) (PF : (Nat → Int32 × Int32 × Int32)) (post : (Nat → Option Nat) → (Nat → Option Nat) → (Nat → Int32) → (List Nat) → (Nat → Int32 × Int32 × Int32) → Prop) (h : p_RuleText_addPartN v_o_depth v_o_places f_o_parts f_o_sequences f_o_followers LP PF post) : MWv l y_RuleText_addPart (.code y_RuleText_addPart c_RuleText_addPart 3 none) { frames := 3, cells := 1, slots := 3, locals := 64 } G K ([(a0, .inr (9, [.ref w_o_noWord, .ref w_o_emptyWord, .ref a0_set, .ref a0_choices, .ref a0_sequences, .ref a0_parts, .int v_o_depth, .ref a0_letters, .ref a0_followers, .int v_o_places])), (a0_parts, .inl (K 2, 5, .inr (.inr (.inr (.inr f_o_parts))))), (a0_sequences, .inl (K 2, 5, .inr (.inr (.inr (.inr f_o_sequences))))), (a0_followers, .inl (K 0, 24, .inl f_o_followers))] ++ va_pl LP (pcs PF)) [] [.ref a0, .null] sz (fun (u : (Nat → Option Nat) × (Nat → Option Nat) × (Nat → Int32) × (List Nat) × (Nat → Int32 × Int32 × Int32)) => post u.1 u.2.1 u.2.2.1 u.2.2.2.1 u.2.2.2.2) (fun u => ([(a0, .inr (9, [.ref w_o_noWord, .ref w_o_emptyWord, .ref a0_set, .ref a0_choices, .ref a0_sequences, .ref a0_parts, .int v_o_depth, .ref a0_letters, .ref a0_followers, .int v_o_places])), (a0_parts, .inl (K 2, 5, .inr (.inr (.inr (.inr u.1))))), (a0_sequences, .inl (K 2, 5, .inr (.inr (.inr (.inr u.2.1))))), (a0_followers, .inl (K 0, 24, .inl u.2.2.1))] ++ va_pl u.2.2.2.1 (pcs u.2.2.2.2))) 1 3 := by
  refine g_metWv (cc := c_RuleText_addPart) (maxL := 3) (ret := none) (by decide) rfl rfl (Nat.le_of_ble_eq_true rfl) ?_
  intro p e s m below meth c A Q hx hb hml hown hname htg hK hN hP hD hA hS hR rN hret ls hl
  have hl : lv_has ls 3 [(0, .ref a0), (1, .null)] := hl
  refine lv_aload_n hx hb d_RuleText_addPart_0 rfl (lv_at hl 0 rfl) ?_
  refine va_get (ci := 9) (v := .ref a0_parts) hx hb htg in_RuleText hown hK hP 0 rfl rfl 5 (by decide) (htg _ m_56) (fun _ h9 => h9) rfl d_RuleText_addPart_1 ?_
  refine lv_aload_n hx hb d_RuleText_addPart_4 rfl (lv_at hl 0 rfl) ?_
  refine va_get (ci := 9) (v := .int v_o_depth) hx hb htg in_RuleText hown hK hP 0 rfl rfl 6 (by decide) (htg _ m_57) (fun _ h9 => h9) rfl d_RuleText_addPart_5 ?_
  obtain ⟨hin, h⟩ := h
  refine va_aldq hx hb hK hP 1 2 rfl rfl hin d_RuleText_addPart_8 ?_
  rcases ho : f_o_parts v_o_depth.toNatClampNeg with _ | z1
  · replace h := h.1 ho
    refine W.eq (g2 := F0 m 9 ls [.null]) rfl ?_
    refine lv_astore_nN (lv' := [(2, .null), (0, .ref a0), (1, .null)]) hx hb d_RuleText_addPart_9 rfl hl (by decide) rfl (fun ls hl => ?_)
    refine lv_aload_nN hx hb d_RuleText_addPart_10 rfl (lv_at hl 0 rfl) ?_
    refine lv_ifnullN (tgt := 56) hx hb d_RuleText_addPart_11 (by decide) ?_
    refine lv_aload_n hx hb d_RuleText_addPart_56 rfl (lv_at hl 1 rfl) ?_
    refine va_get (ci := 9) (v := .ref a0_parts) hx hb htg in_RuleText hown hK hP 0 rfl rfl 5 (by decide) (htg _ m_56) (fun _ h9 => h9) rfl d_RuleText_addPart_57 ?_
    refine lv_aload_n hx hb d_RuleText_addPart_60 rfl (lv_at hl 1 rfl) ?_
    refine va_get (ci := 9) (v := .int v_o_depth) hx hb htg in_RuleText hown hK hP 0 rfl rfl 6 (by decide) (htg _ m_57) (fun _ h9 => h9) rfl d_RuleText_addPart_61 ?_
    refine lv_aload_nN hx hb d_RuleText_addPart_64 rfl (lv_at hl 2 rfl) ?_
    obtain ⟨hin, h⟩ := h
    refine va_astqN hx hb hK hP hD hS 1 2 rfl rfl hin d_RuleText_addPart_65 (fun H locs hP hD hS => ?_)
    have hP : va_P G vwCl ([(a0, .inr (9, [.ref w_o_noWord, .ref w_o_emptyWord, .ref a0_set, .ref a0_choices, .ref a0_sequences, .ref a0_parts, .int v_o_depth, .ref a0_letters, .ref a0_followers, .int v_o_places])), (a0_parts, .inl (K 2, 5, .inr (.inr (.inr (.inr (va_up f_o_parts v_o_depth.toNatClampNeg none)))))), (a0_sequences, .inl (K 2, 5, .inr (.inr (.inr (.inr f_o_sequences))))), (a0_followers, .inl (K 0, 24, .inl f_o_followers))] ++ va_pl LP (pcs PF)) H := hP
    have hD : va_D A ([(a0, .inr (9, [.ref w_o_noWord, .ref w_o_emptyWord, .ref a0_set, .ref a0_choices, .ref a0_sequences, .ref a0_parts, .int v_o_depth, .ref a0_letters, .ref a0_followers, .int v_o_places])), (a0_parts, .inl (K 2, 5, .inr (.inr (.inr (.inr (va_up f_o_parts v_o_depth.toNatClampNeg none)))))), (a0_sequences, .inl (K 2, 5, .inr (.inr (.inr (.inr f_o_sequences))))), (a0_followers, .inl (K 0, 24, .inl f_o_followers))] ++ va_pl LP (pcs PF)) := hD
    refine W.widen (k := 1) (n := 3) (by decide) (by decide) ?_
    exact hret ((va_up f_o_parts v_o_depth.toNatClampNeg none), f_o_sequences, f_o_followers, LP, PF) _ _ _ _ h (hP.part [0, 1, 2, 3] rfl) (hD.part [0, 1, 2, 3] (by decide) rfl) hS d_RuleText_addPart_66
  · replace h := h.2 z1 ho
    refine W.eq (g2 := F0 m 9 ls [.ref z1]) rfl ?_
    refine lv_astore_n (lv' := [(2, .ref z1), (0, .ref a0), (1, .null)]) hx hb d_RuleText_addPart_9 rfl hl (by decide) rfl (fun ls hl => ?_)
    refine lv_aload_n hx hb d_RuleText_addPart_10 rfl (lv_at hl 0 rfl) ?_
    refine lv_ifnull hx hb d_RuleText_addPart_11 ?_
    refine lv_aload_n hx hb d_RuleText_addPart_14 rfl (lv_at hl 1 rfl) ?_
    refine lv_aload_n hx hb d_RuleText_addPart_15 rfl (lv_at hl 1 rfl) ?_
    refine va_get (ci := 9) (v := .ref a0_sequences) hx hb htg in_RuleText hown hK hP 0 rfl rfl 4 (by decide) (htg _ m_55) (fun _ h9 => h9) rfl d_RuleText_addPart_16 ?_
    refine lv_aload_n hx hb d_RuleText_addPart_19 rfl (lv_at hl 1 rfl) ?_
    refine va_get (ci := 9) (v := .int v_o_depth) hx hb htg in_RuleText hown hK hP 0 rfl rfl 6 (by decide) (htg _ m_57) (fun _ h9 => h9) rfl d_RuleText_addPart_20 ?_
    obtain ⟨hin, h⟩ := h
    refine va_aldq hx hb hK hP 2 2 rfl rfl hin d_RuleText_addPart_23 ?_
    rcases ho : f_o_sequences v_o_depth.toNatClampNeg with _ | z2
    · replace h := h.1 ho
      refine W.eq (g2 := F0 m 24 ls [.null, .ref a0]) rfl ?_
      exact False.elim h
    · replace h := h.2 z2 ho
      refine W.eq (g2 := F0 m 24 ls [.ref z2, .ref a0]) rfl ?_
      obtain ⟨hm, h⟩ := h
      obtain ⟨k9, hk9⟩ := va_pl_get (X := [(a0, .inr (9, [.ref w_o_noWord, .ref w_o_emptyWord, .ref a0_set, .ref a0_choices, .ref a0_sequences, .ref a0_parts, .int v_o_depth, .ref a0_letters, .ref a0_followers, .int v_o_places])), (a0_parts, .inl (K 2, 5, .inr (.inr (.inr (.inr f_o_parts))))), (a0_sequences, .inl (K 2, 5, .inr (.inr (.inr (.inr f_o_sequences))))), (a0_followers, .inl (K 0, 24, .inl f_o_followers))]) (f := pcs PF) hm
      refine va_getN (ci := 7) (v := .int ((PF z2).2.1)) hx hb htg in_Piece hown hK hP k9 hk9 rfl 1 (by decide) (va_Nw.use rfl (hN.1 (.fieldLinkNest "TokenBench$RuleText" 78 "TokenBench$Piece" "last" "I" "TokenBench") (by decide +kernel))) (fun _ h9 => h9) rfl d_RuleText_addPart_24 ?_
      refine lv_aload_n hx hb d_RuleText_addPart_27 rfl (lv_at hl 0 rfl) ?_
      obtain ⟨hm, h⟩ := h
      obtain ⟨k9, hk9⟩ := va_pl_get (X := [(a0, .inr (9, [.ref w_o_noWord, .ref w_o_emptyWord, .ref a0_set, .ref a0_choices, .ref a0_sequences, .ref a0_parts, .int v_o_depth, .ref a0_letters, .ref a0_followers, .int v_o_places])), (a0_parts, .inl (K 2, 5, .inr (.inr (.inr (.inr f_o_parts))))), (a0_sequences, .inl (K 2, 5, .inr (.inr (.inr (.inr f_o_sequences))))), (a0_followers, .inl (K 0, 24, .inl f_o_followers))]) (f := pcs PF) hm
      refine va_getN (ci := 7) (v := .int ((PF z1).1)) hx hb htg in_Piece hown hK hP k9 hk9 rfl 0 (by decide) (va_Nw.use rfl (hN.1 (.fieldLinkNest "TokenBench$RuleText" 75 "TokenBench$Piece" "first" "I" "TokenBench") (by decide +kernel))) (fun _ h9 => h9) rfl d_RuleText_addPart_28 ?_
      have hPc : va_P G vwCl [(a0_followers, .inl (K 0, 24, .inl f_o_followers))] _ := hP.sub [3] rfl
      have hDc : va_D A [(a0_followers, .inl (K 0, 24, .inl f_o_followers))] := hD.sub [3] (by decide) rfl
      have hRc : va_P G vwCl [(a0, .inr (9, [.ref w_o_noWord, .ref w_o_emptyWord, .ref a0_set, .ref a0_choices, .ref a0_sequences, .ref a0_parts, .int v_o_depth, .ref a0_letters, .ref a0_followers, .int v_o_places]))] _ := hP.sub [0] rfl
      have hJc : gJ [(a0_followers, .inl (K 0, 24, .inl f_o_followers))] [(a0, .inr (9, [.ref w_o_noWord, .ref w_o_emptyWord, .ref a0_set, .ref a0_choices, .ref a0_sequences, .ref a0_parts, .int v_o_depth, .ref a0_letters, .ref a0_followers, .int v_o_places]))] := gJ_sub hD rN [3] [0] rfl rfl (by decide)
      refine g_callvQ (wr := [(a0, .inr (9, [.ref w_o_noWord, .ref w_o_emptyWord, .ref a0_set, .ref a0_choices, .ref a0_sequences, .ref a0_parts, .int v_o_depth, .ref a0_letters, .ref a0_followers, .int v_o_places])), (a0_parts, .inl (K 2, 5, .inr (.inr (.inr (.inr f_o_parts))))), (a0_sequences, .inl (K 2, 5, .inr (.inr (.inr (.inr f_o_sequences)))))]) (va_runV (As := [.int ((PF z2).2.1), .int ((PF z1).1)]) (rest := []) ⟨hx, hb, hml, hown, htg⟩ (k_RuleText_link l G K a0 a0_followers a0_set a0_choices a0_sequences a0_parts a0_letters _ w_o_noWord w_o_emptyWord v_o_depth v_o_places f_o_followers ((PF z2).2.1) ((PF z1).1) _ h) (cwV 2 htg (gGoodV m_246 m_247 m_863 m_2 m_248) rfl rfl rfl (by decide +kernel) ⟨(Nat.le_of_ble_eq_true rfl), (Nat.le_of_ble_eq_true rfl)⟩) (gW_preV (ci := 9) (q0 := 0) hK hN hPc hDc hRc hJc hRc rfl rfl) rfl rfl hl.1 rfl (lv_room (Nat.le_of_ble_eq_true rfl)) d_RuleText_addPart_31 ⟨(Nat.le_of_ble_eq_true rfl), (Nat.le_of_ble_eq_true rfl)⟩) hP hD hS hA [3] [0, 1, 2] rfl rfl (by decide) (by decide) (fun u H locs h hP hD hS => ?_)
      obtain ⟨u3, rfl⟩ : ∃ z, z = u := ⟨_, rfl⟩
      try dsimp only at h
      have hP : va_P G vwCl ([(a0, .inr (9, [.ref w_o_noWord, .ref w_o_emptyWord, .ref a0_set, .ref a0_choices, .ref a0_sequences, .ref a0_parts, .int v_o_depth, .ref a0_letters, .ref a0_followers, .int v_o_places])), (a0_parts, .inl (K 2, 5, .inr (.inr (.inr (.inr f_o_parts))))), (a0_sequences, .inl (K 2, 5, .inr (.inr (.inr (.inr f_o_sequences))))), (a0_followers, .inl (K 0, 24, .inl u3))] ++ va_pl LP (pcs PF)) H := hP
      have hD : va_D A ([(a0, .inr (9, [.ref w_o_noWord, .ref w_o_emptyWord, .ref a0_set, .ref a0_choices, .ref a0_sequences, .ref a0_parts, .int v_o_depth, .ref a0_letters, .ref a0_followers, .int v_o_places])), (a0_parts, .inl (K 2, 5, .inr (.inr (.inr (.inr f_o_parts))))), (a0_sequences, .inl (K 2, 5, .inr (.inr (.inr (.inr f_o_sequences))))), (a0_followers, .inl (K 0, 24, .inl u3))] ++ va_pl LP (pcs PF)) := hD
      refine lv_aload_n hx hb d_RuleText_addPart_34 rfl (lv_at hl 1 rfl) ?_
      refine va_get (ci := 9) (v := .ref a0_sequences) hx hb htg in_RuleText hown hK hP 0 rfl rfl 4 (by decide) (htg _ m_55) (fun _ h9 => h9) rfl d_RuleText_addPart_35 ?_
      refine lv_aload_n hx hb d_RuleText_addPart_38 rfl (lv_at hl 1 rfl) ?_
      refine va_get (ci := 9) (v := .int v_o_depth) hx hb htg in_RuleText hown hK hP 0 rfl rfl 6 (by decide) (htg _ m_57) (fun _ h9 => h9) rfl d_RuleText_addPart_39 ?_
      refine lv_aload_n hx hb d_RuleText_addPart_42 rfl (lv_at hl 1 rfl) ?_
      refine va_get (ci := 9) (v := .ref a0_sequences) hx hb htg in_RuleText hown hK hP 0 rfl rfl 4 (by decide) (htg _ m_55) (fun _ h9 => h9) rfl d_RuleText_addPart_43 ?_
      refine lv_aload_n hx hb d_RuleText_addPart_46 rfl (lv_at hl 1 rfl) ?_
      refine va_get (ci := 9) (v := .int v_o_depth) hx hb htg in_RuleText hown hK hP 0 rfl rfl 6 (by decide) (htg _ m_57) (fun _ h9 => h9) rfl d_RuleText_addPart_47 ?_
      obtain ⟨hin, h⟩ := h
      refine va_aldq hx hb hK hP 2 2 rfl rfl hin d_RuleText_addPart_50 ?_
      rcases ho : f_o_sequences v_o_depth.toNatClampNeg with _ | z5
      · replace h := h.1 ho
        refine W.eq (g2 := F0 m 51 ls [.null, .int v_o_depth, .ref a0_sequences]) rfl ?_
        exact False.elim h
      · replace h := h.2 z5 ho
        refine W.eq (g2 := F0 m 51 ls [.ref z5, .int v_o_depth, .ref a0_sequences]) rfl ?_
        refine lv_aload_n hx hb d_RuleText_addPart_51 rfl (lv_at hl 0 rfl) ?_
        obtain ⟨hm0, hm1, h⟩ := h
        have hRc : va_P G vwCl [(z5, pcs PF z5), (z1, pcs PF z1)] _ := gPl2 hP hm0 hm1
        refine g_callr0 (va_runV (As := [.ref z1]) (rest := [.int v_o_depth, .ref a0_sequences]) ⟨hx, hb, hml, hown, htg⟩ (k_Piece_then l G K z5 z1 _ (PF z5).1 (PF z5).2.1 (PF z5).2.2 (PF z1).1 (PF z1).2.1 (PF z1).2.2 _ h) (cwV 1 htg (gGoodV m_249 m_250 m_251 m_3 m_252) rfl rfl rfl (by decide +kernel) ⟨(Nat.le_of_ble_eq_true rfl), (Nat.le_of_ble_eq_true rfl)⟩) (gW_preV (ci := 7) (q0 := 0) hK hN va_P_nil (va_D_nil (A := A)) hRc gJ_nil2 hRc rfl rfl) rfl rfl hl.1 rfl (lv_room (Nat.le_of_ble_eq_true rfl)) d_RuleText_addPart_52 ⟨(Nat.le_of_ble_eq_true rfl), (Nat.le_of_ble_eq_true rfl)⟩) hP hD hS hA (fun u q6 H locs h hP hD hS => ?_)
        obtain ⟨u7, u8, u9⟩ := u
        try dsimp only at h
        have hq := va_pl_fresh2 hD
        replace h := h q6 hq
        have hP := g_pushP hq hP
        have hD := g_pushD hq hD
        have hP : va_P G vwCl ([(a0, .inr (9, [.ref w_o_noWord, .ref w_o_emptyWord, .ref a0_set, .ref a0_choices, .ref a0_sequences, .ref a0_parts, .int v_o_depth, .ref a0_letters, .ref a0_followers, .int v_o_places])), (a0_parts, .inl (K 2, 5, .inr (.inr (.inr (.inr f_o_parts))))), (a0_sequences, .inl (K 2, 5, .inr (.inr (.inr (.inr f_o_sequences))))), (a0_followers, .inl (K 0, 24, .inl u3))] ++ va_pl (LP ++ [q6]) (pcs (va_up PF q6 (u7, u8, u9)))) H := hP
        have hD : va_D A ([(a0, .inr (9, [.ref w_o_noWord, .ref w_o_emptyWord, .ref a0_set, .ref a0_choices, .ref a0_sequences, .ref a0_parts, .int v_o_depth, .ref a0_letters, .ref a0_followers, .int v_o_places])), (a0_parts, .inl (K 2, 5, .inr (.inr (.inr (.inr f_o_parts))))), (a0_sequences, .inl (K 2, 5, .inr (.inr (.inr (.inr f_o_sequences))))), (a0_followers, .inl (K 0, 24, .inl u3))] ++ va_pl (LP ++ [q6]) (pcs (va_up PF q6 (u7, u8, u9)))) := hD
        obtain ⟨hin, h⟩ := h
        obtain ⟨hm, h⟩ := h
        obtain ⟨k9, hk9⟩ := va_pl_get (X := [(a0, .inr (9, [.ref w_o_noWord, .ref w_o_emptyWord, .ref a0_set, .ref a0_choices, .ref a0_sequences, .ref a0_parts, .int v_o_depth, .ref a0_letters, .ref a0_followers, .int v_o_places])), (a0_parts, .inl (K 2, 5, .inr (.inr (.inr (.inr f_o_parts))))), (a0_sequences, .inl (K 2, 5, .inr (.inr (.inr (.inr f_o_sequences))))), (a0_followers, .inl (K 0, 24, .inl u3))]) (f := pcs (va_up PF q6 (u7, u8, u9))) hm
        refine va_astq hx hb hK hP hD hS 2 2 k9 7 rfl rfl hk9 rfl hin d_RuleText_addPart_55 (fun H locs hP hD hS => ?_)
        have hP : va_P G vwCl ([(a0, .inr (9, [.ref w_o_noWord, .ref w_o_emptyWord, .ref a0_set, .ref a0_choices, .ref a0_sequences, .ref a0_parts, .int v_o_depth, .ref a0_letters, .ref a0_followers, .int v_o_places])), (a0_parts, .inl (K 2, 5, .inr (.inr (.inr (.inr f_o_parts))))), (a0_sequences, .inl (K 2, 5, .inr (.inr (.inr (.inr (va_up f_o_sequences v_o_depth.toNatClampNeg (some q6))))))), (a0_followers, .inl (K 0, 24, .inl u3))] ++ va_pl (LP ++ [q6]) (pcs (va_up PF q6 (u7, u8, u9)))) H := hP
        have hD : va_D A ([(a0, .inr (9, [.ref w_o_noWord, .ref w_o_emptyWord, .ref a0_set, .ref a0_choices, .ref a0_sequences, .ref a0_parts, .int v_o_depth, .ref a0_letters, .ref a0_followers, .int v_o_places])), (a0_parts, .inl (K 2, 5, .inr (.inr (.inr (.inr f_o_parts))))), (a0_sequences, .inl (K 2, 5, .inr (.inr (.inr (.inr (va_up f_o_sequences v_o_depth.toNatClampNeg (some q6))))))), (a0_followers, .inl (K 0, 24, .inl u3))] ++ va_pl (LP ++ [q6]) (pcs (va_up PF q6 (u7, u8, u9)))) := hD
        refine lv_aload_n hx hb d_RuleText_addPart_56 rfl (lv_at hl 1 rfl) ?_
        refine va_get (ci := 9) (v := .ref a0_parts) hx hb htg in_RuleText hown hK hP 0 rfl rfl 5 (by decide) (htg _ m_56) (fun _ h9 => h9) rfl d_RuleText_addPart_57 ?_
        refine lv_aload_n hx hb d_RuleText_addPart_60 rfl (lv_at hl 1 rfl) ?_
        refine va_get (ci := 9) (v := .int v_o_depth) hx hb htg in_RuleText hown hK hP 0 rfl rfl 6 (by decide) (htg _ m_57) (fun _ h9 => h9) rfl d_RuleText_addPart_61 ?_
        refine lv_aload_nN hx hb d_RuleText_addPart_64 rfl (lv_at hl 2 rfl) ?_
        obtain ⟨hin, h⟩ := h
        refine va_astqN hx hb hK hP hD hS 1 2 rfl rfl hin d_RuleText_addPart_65 (fun H locs hP hD hS => ?_)
        have hP : va_P G vwCl ([(a0, .inr (9, [.ref w_o_noWord, .ref w_o_emptyWord, .ref a0_set, .ref a0_choices, .ref a0_sequences, .ref a0_parts, .int v_o_depth, .ref a0_letters, .ref a0_followers, .int v_o_places])), (a0_parts, .inl (K 2, 5, .inr (.inr (.inr (.inr (va_up f_o_parts v_o_depth.toNatClampNeg none)))))), (a0_sequences, .inl (K 2, 5, .inr (.inr (.inr (.inr (va_up f_o_sequences v_o_depth.toNatClampNeg (some q6))))))), (a0_followers, .inl (K 0, 24, .inl u3))] ++ va_pl (LP ++ [q6]) (pcs (va_up PF q6 (u7, u8, u9)))) H := hP
        have hD : va_D A ([(a0, .inr (9, [.ref w_o_noWord, .ref w_o_emptyWord, .ref a0_set, .ref a0_choices, .ref a0_sequences, .ref a0_parts, .int v_o_depth, .ref a0_letters, .ref a0_followers, .int v_o_places])), (a0_parts, .inl (K 2, 5, .inr (.inr (.inr (.inr (va_up f_o_parts v_o_depth.toNatClampNeg none)))))), (a0_sequences, .inl (K 2, 5, .inr (.inr (.inr (.inr (va_up f_o_sequences v_o_depth.toNatClampNeg (some q6))))))), (a0_followers, .inl (K 0, 24, .inl u3))] ++ va_pl (LP ++ [q6]) (pcs (va_up PF q6 (u7, u8, u9)))) := hD
        exact hret ((va_up f_o_parts v_o_depth.toNatClampNeg none), (va_up f_o_sequences v_o_depth.toNatClampNeg (some q6)), u3, (LP ++ [q6]), (va_up PF q6 (u7, u8, u9))) _ _ _ _ h (hP.part [0, 1, 2, 3] rfl) (hD.part [0, 1, 2, 3] (by decide) rfl) hS d_RuleText_addPart_66
def p_RuleText_addPart (v_o_depth : Int32) (v_o_places : Int32) (f_o_parts : (Nat → Option Nat)) (f_o_sequences : (Nat → Option Nat)) (f_o_followers : (Nat → Int32)) (LP : (List Nat)) (PF : (Nat → Int32 × Int32 × Int32)) (x1 : Nat) (post : (Nat → Option Nat) → (Nat → Option Nat) → (Nat → Int32) → (List Nat) → (Nat → Int32 × Int32 × Int32) → Prop) : Prop := (vp_in v_o_depth 5 ∧ ((f_o_parts v_o_depth.toNatClampNeg = none → (vp_in v_o_depth 5 ∧ (x1 ∈ LP ∧ (post (va_up f_o_parts v_o_depth.toNatClampNeg (some x1)) f_o_sequences f_o_followers LP PF)))) ∧ (∀ z1, f_o_parts v_o_depth.toNatClampNeg = some z1 → (vp_in v_o_depth 5 ∧ ((f_o_sequences v_o_depth.toNatClampNeg = none → False) ∧ (∀ z2, f_o_sequences v_o_depth.toNatClampNeg = some z2 → (z2 ∈ LP ∧ (z1 ∈ LP ∧ (p_RuleText_link v_o_places f_o_followers ((PF z2).2.1) ((PF z1).1) (fun u3 => (vp_in v_o_depth 5 ∧ ((f_o_sequences v_o_depth.toNatClampNeg = none → False) ∧ (∀ z5, f_o_sequences v_o_depth.toNatClampNeg = some z5 → (z5 ∈ LP ∧ z1 ∈ LP ∧ p_Piece_then (PF z5).1 (PF z5).2.1 (PF z5).2.2 (PF z1).1 (PF z1).2.1 (PF z1).2.2 (fun u7 u8 u9 => ∀ q6, q6 ∉ LP → (vp_in v_o_depth 5 ∧ (q6 ∈ (LP ++ [q6]) ∧ (vp_in v_o_depth 5 ∧ (x1 ∈ (LP ++ [q6]) ∧ (post (va_up f_o_parts v_o_depth.toNatClampNeg (some x1)) (va_up f_o_sequences v_o_depth.toNatClampNeg (some q6)) u3 (LP ++ [q6]) (va_up PF q6 (u7, u8, u9))))))))))))))))))))))
set_option maxHeartbeats 4000000 in
set_option maxRecDepth 100000 in
theorem k_RuleText_addPart (l : Launch) (G : va_G) (K : Nat → ClassId) (a0 a0_parts a0_sequences a0_followers a0_set a0_choices a0_letters : Nat) (sz : Nat) (w_o_noWord : Nat) (w_o_emptyWord : Nat) (v_o_depth : Int32) (v_o_places : Int32) (f_o_parts : (Nat → Option Nat)) (f_o_sequences : (Nat → Option Nat)) (f_o_followers : (Nat → Int32)) (LP : (List Nat)) (PF : (Nat → Int32 × Int32 × Int32)) (x1 : Nat) (post : (Nat → Option Nat) → (Nat → Option Nat) → (Nat → Int32) → (List Nat) → (Nat → Int32 × Int32 × Int32) → Prop) (h : p_RuleText_addPart v_o_depth v_o_places f_o_parts f_o_sequences f_o_followers LP PF x1 post) : MWv l y_RuleText_addPart (.code y_RuleText_addPart c_RuleText_addPart 3 none) { frames := 3, cells := 1, slots := 3, locals := 64 } G K ([(a0, .inr (9, [.ref w_o_noWord, .ref w_o_emptyWord, .ref a0_set, .ref a0_choices, .ref a0_sequences, .ref a0_parts, .int v_o_depth, .ref a0_letters, .ref a0_followers, .int v_o_places])), (a0_parts, .inl (K 2, 5, .inr (.inr (.inr (.inr f_o_parts))))), (a0_sequences, .inl (K 2, 5, .inr (.inr (.inr (.inr f_o_sequences))))), (a0_followers, .inl (K 0, 24, .inl f_o_followers))] ++ va_pl LP (pcs PF)) [] [.ref a0, .ref x1] sz (fun (u : (Nat → Option Nat) × (Nat → Option Nat) × (Nat → Int32) × (List Nat) × (Nat → Int32 × Int32 × Int32)) => post u.1 u.2.1 u.2.2.1 u.2.2.2.1 u.2.2.2.2) (fun u => ([(a0, .inr (9, [.ref w_o_noWord, .ref w_o_emptyWord, .ref a0_set, .ref a0_choices, .ref a0_sequences, .ref a0_parts, .int v_o_depth, .ref a0_letters, .ref a0_followers, .int v_o_places])), (a0_parts, .inl (K 2, 5, .inr (.inr (.inr (.inr u.1))))), (a0_sequences, .inl (K 2, 5, .inr (.inr (.inr (.inr u.2.1))))), (a0_followers, .inl (K 0, 24, .inl u.2.2.1))] ++ va_pl u.2.2.2.1 (pcs u.2.2.2.2))) 1 3 := by
  refine g_metWv (cc := c_RuleText_addPart) (maxL := 3) (ret := none) (by decide) rfl rfl (Nat.le_of_ble_eq_true rfl) ?_
  intro p e s m below meth c A Q hx hb hml hown hname htg hK hN hP hD hA hS hR rN hret ls hl
  have hl : lv_has ls 3 [(0, .ref a0), (1, .ref x1)] := hl
  refine lv_aload_n hx hb d_RuleText_addPart_0 rfl (lv_at hl 0 rfl) ?_
  refine va_get (ci := 9) (v := .ref a0_parts) hx hb htg in_RuleText hown hK hP 0 rfl rfl 5 (by decide) (htg _ m_56) (fun _ h9 => h9) rfl d_RuleText_addPart_1 ?_
  refine lv_aload_n hx hb d_RuleText_addPart_4 rfl (lv_at hl 0 rfl) ?_
  refine va_get (ci := 9) (v := .int v_o_depth) hx hb htg in_RuleText hown hK hP 0 rfl rfl 6 (by decide) (htg _ m_57) (fun _ h9 => h9) rfl d_RuleText_addPart_5 ?_
  obtain ⟨hin, h⟩ := h
  refine va_aldq hx hb hK hP 1 2 rfl rfl hin d_RuleText_addPart_8 ?_
  rcases ho : f_o_parts v_o_depth.toNatClampNeg with _ | z1
  · replace h := h.1 ho
    refine W.eq (g2 := F0 m 9 ls [.null]) rfl ?_
    refine lv_astore_nN (lv' := [(2, .null), (0, .ref a0), (1, .ref x1)]) hx hb d_RuleText_addPart_9 rfl hl (by decide) rfl (fun ls hl => ?_)
    refine lv_aload_nN hx hb d_RuleText_addPart_10 rfl (lv_at hl 0 rfl) ?_
    refine lv_ifnullN (tgt := 56) hx hb d_RuleText_addPart_11 (by decide) ?_
    refine lv_aload_n hx hb d_RuleText_addPart_56 rfl (lv_at hl 1 rfl) ?_
    refine va_get (ci := 9) (v := .ref a0_parts) hx hb htg in_RuleText hown hK hP 0 rfl rfl 5 (by decide) (htg _ m_56) (fun _ h9 => h9) rfl d_RuleText_addPart_57 ?_
    refine lv_aload_n hx hb d_RuleText_addPart_60 rfl (lv_at hl 1 rfl) ?_
    refine va_get (ci := 9) (v := .int v_o_depth) hx hb htg in_RuleText hown hK hP 0 rfl rfl 6 (by decide) (htg _ m_57) (fun _ h9 => h9) rfl d_RuleText_addPart_61 ?_
    refine lv_aload_n hx hb d_RuleText_addPart_64 rfl (lv_at hl 2 rfl) ?_
    obtain ⟨hin, h⟩ := h
    obtain ⟨hm, h⟩ := h
    obtain ⟨k9, hk9⟩ := va_pl_get (X := [(a0, .inr (9, [.ref w_o_noWord, .ref w_o_emptyWord, .ref a0_set, .ref a0_choices, .ref a0_sequences, .ref a0_parts, .int v_o_depth, .ref a0_letters, .ref a0_followers, .int v_o_places])), (a0_parts, .inl (K 2, 5, .inr (.inr (.inr (.inr f_o_parts))))), (a0_sequences, .inl (K 2, 5, .inr (.inr (.inr (.inr f_o_sequences))))), (a0_followers, .inl (K 0, 24, .inl f_o_followers))]) (f := pcs PF) hm
    refine va_astq hx hb hK hP hD hS 1 2 k9 7 rfl rfl hk9 rfl hin d_RuleText_addPart_65 (fun H locs hP hD hS => ?_)
    have hP : va_P G vwCl ([(a0, .inr (9, [.ref w_o_noWord, .ref w_o_emptyWord, .ref a0_set, .ref a0_choices, .ref a0_sequences, .ref a0_parts, .int v_o_depth, .ref a0_letters, .ref a0_followers, .int v_o_places])), (a0_parts, .inl (K 2, 5, .inr (.inr (.inr (.inr (va_up f_o_parts v_o_depth.toNatClampNeg (some x1))))))), (a0_sequences, .inl (K 2, 5, .inr (.inr (.inr (.inr f_o_sequences))))), (a0_followers, .inl (K 0, 24, .inl f_o_followers))] ++ va_pl LP (pcs PF)) H := hP
    have hD : va_D A ([(a0, .inr (9, [.ref w_o_noWord, .ref w_o_emptyWord, .ref a0_set, .ref a0_choices, .ref a0_sequences, .ref a0_parts, .int v_o_depth, .ref a0_letters, .ref a0_followers, .int v_o_places])), (a0_parts, .inl (K 2, 5, .inr (.inr (.inr (.inr (va_up f_o_parts v_o_depth.toNatClampNeg (some x1))))))), (a0_sequences, .inl (K 2, 5, .inr (.inr (.inr (.inr f_o_sequences))))), (a0_followers, .inl (K 0, 24, .inl f_o_followers))] ++ va_pl LP (pcs PF)) := hD
    refine W.widen (k := 1) (n := 3) (by decide) (by decide) ?_
    exact hret ((va_up f_o_parts v_o_depth.toNatClampNeg (some x1)), f_o_sequences, f_o_followers, LP, PF) _ _ _ _ h (hP.part [0, 1, 2, 3] rfl) (hD.part [0, 1, 2, 3] (by decide) rfl) hS d_RuleText_addPart_66
  · replace h := h.2 z1 ho
    refine W.eq (g2 := F0 m 9 ls [.ref z1]) rfl ?_
    refine lv_astore_n (lv' := [(2, .ref z1), (0, .ref a0), (1, .ref x1)]) hx hb d_RuleText_addPart_9 rfl hl (by decide) rfl (fun ls hl => ?_)
    refine lv_aload_n hx hb d_RuleText_addPart_10 rfl (lv_at hl 0 rfl) ?_
    refine lv_ifnull hx hb d_RuleText_addPart_11 ?_
    refine lv_aload_n hx hb d_RuleText_addPart_14 rfl (lv_at hl 1 rfl) ?_
    refine lv_aload_n hx hb d_RuleText_addPart_15 rfl (lv_at hl 1 rfl) ?_
    refine va_get (ci := 9) (v := .ref a0_sequences) hx hb htg in_RuleText hown hK hP 0 rfl rfl 4 (by decide) (htg _ m_55) (fun _ h9 => h9) rfl d_RuleText_addPart_16 ?_
    refine lv_aload_n hx hb d_RuleText_addPart_19 rfl (lv_at hl 1 rfl) ?_
    refine va_get (ci := 9) (v := .int v_o_depth) hx hb htg in_RuleText hown hK hP 0 rfl rfl 6 (by decide) (htg _ m_57) (fun _ h9 => h9) rfl d_RuleText_addPart_20 ?_
    obtain ⟨hin, h⟩ := h
    refine va_aldq hx hb hK hP 2 2 rfl rfl hin d_RuleText_addPart_23 ?_
    rcases ho : f_o_sequences v_o_depth.toNatClampNeg with _ | z2
    · replace h := h.1 ho
      refine W.eq (g2 := F0 m 24 ls [.null, .ref a0]) rfl ?_
      exact False.elim h
    · replace h := h.2 z2 ho
      refine W.eq (g2 := F0 m 24 ls [.ref z2, .ref a0]) rfl ?_
      obtain ⟨hm, h⟩ := h
      obtain ⟨k9, hk9⟩ := va_pl_get (X := [(a0, .inr (9, [.ref w_o_noWord, .ref w_o_emptyWord, .ref a0_set, .ref a0_choices, .ref a0_sequences, .ref a0_parts, .int v_o_depth, .ref a0_letters, .ref a0_followers, .int v_o_places])), (a0_parts, .inl (K 2, 5, .inr (.inr (.inr (.inr f_o_parts))))), (a0_sequences, .inl (K 2, 5, .inr (.inr (.inr (.inr f_o_sequences))))), (a0_followers, .inl (K 0, 24, .inl f_o_followers))]) (f := pcs PF) hm
      refine va_getN (ci := 7) (v := .int ((PF z2).2.1)) hx hb htg in_Piece hown hK hP k9 hk9 rfl 1 (by decide) (va_Nw.use rfl (hN.1 (.fieldLinkNest "TokenBench$RuleText" 78 "TokenBench$Piece" "last" "I" "TokenBench") (by decide +kernel))) (fun _ h9 => h9) rfl d_RuleText_addPart_24 ?_
      refine lv_aload_n hx hb d_RuleText_addPart_27 rfl (lv_at hl 0 rfl) ?_
      obtain ⟨hm, h⟩ := h
      obtain ⟨k9, hk9⟩ := va_pl_get (X := [(a0, .inr (9, [.ref w_o_noWord, .ref w_o_emptyWord, .ref a0_set, .ref a0_choices, .ref a0_sequences, .ref a0_parts, .int v_o_depth, .ref a0_letters, .ref a0_followers, .int v_o_places])), (a0_parts, .inl (K 2, 5, .inr (.inr (.inr (.inr f_o_parts))))), (a0_sequences, .inl (K 2, 5, .inr (.inr (.inr (.inr f_o_sequences))))), (a0_followers, .inl (K 0, 24, .inl f_o_followers))]) (f := pcs PF) hm
      refine va_getN (ci := 7) (v := .int ((PF z1).1)) hx hb htg in_Piece hown hK hP k9 hk9 rfl 0 (by decide) (va_Nw.use rfl (hN.1 (.fieldLinkNest "TokenBench$RuleText" 75 "TokenBench$Piece" "first" "I" "TokenBench") (by decide +kernel))) (fun _ h9 => h9) rfl d_RuleText_addPart_28 ?_
      have hPc : va_P G vwCl [(a0_followers, .inl (K 0, 24, .inl f_o_followers))] _ := hP.sub [3] rfl
      have hDc : va_D A [(a0_followers, .inl (K 0, 24, .inl f_o_followers))] := hD.sub [3] (by decide) rfl
      have hRc : va_P G vwCl [(a0, .inr (9, [.ref w_o_noWord, .ref w_o_emptyWord, .ref a0_set, .ref a0_choices, .ref a0_sequences, .ref a0_parts, .int v_o_depth, .ref a0_letters, .ref a0_followers, .int v_o_places]))] _ := hP.sub [0] rfl
      have hJc : gJ [(a0_followers, .inl (K 0, 24, .inl f_o_followers))] [(a0, .inr (9, [.ref w_o_noWord, .ref w_o_emptyWord, .ref a0_set, .ref a0_choices, .ref a0_sequences, .ref a0_parts, .int v_o_depth, .ref a0_letters, .ref a0_followers, .int v_o_places]))] := gJ_sub hD rN [3] [0] rfl rfl (by decide)
      refine g_callvQ (wr := [(a0, .inr (9, [.ref w_o_noWord, .ref w_o_emptyWord, .ref a0_set, .ref a0_choices, .ref a0_sequences, .ref a0_parts, .int v_o_depth, .ref a0_letters, .ref a0_followers, .int v_o_places])), (a0_parts, .inl (K 2, 5, .inr (.inr (.inr (.inr f_o_parts))))), (a0_sequences, .inl (K 2, 5, .inr (.inr (.inr (.inr f_o_sequences)))))]) (va_runV (As := [.int ((PF z2).2.1), .int ((PF z1).1)]) (rest := []) ⟨hx, hb, hml, hown, htg⟩ (k_RuleText_link l G K a0 a0_followers a0_set a0_choices a0_sequences a0_parts a0_letters _ w_o_noWord w_o_emptyWord v_o_depth v_o_places f_o_followers ((PF z2).2.1) ((PF z1).1) _ h) (cwV 2 htg (gGoodV m_246 m_247 m_863 m_2 m_248) rfl rfl rfl (by decide +kernel) ⟨(Nat.le_of_ble_eq_true rfl), (Nat.le_of_ble_eq_true rfl)⟩) (gW_preV (ci := 9) (q0 := 0) hK hN hPc hDc hRc hJc hRc rfl rfl) rfl rfl hl.1 rfl (lv_room (Nat.le_of_ble_eq_true rfl)) d_RuleText_addPart_31 ⟨(Nat.le_of_ble_eq_true rfl), (Nat.le_of_ble_eq_true rfl)⟩) hP hD hS hA [3] [0, 1, 2] rfl rfl (by decide) (by decide) (fun u H locs h hP hD hS => ?_)
      obtain ⟨u3, rfl⟩ : ∃ z, z = u := ⟨_, rfl⟩
      try dsimp only at h
      have hP : va_P G vwCl ([(a0, .inr (9, [.ref w_o_noWord, .ref w_o_emptyWord, .ref a0_set, .ref a0_choices, .ref a0_sequences, .ref a0_parts, .int v_o_depth, .ref a0_letters, .ref a0_followers, .int v_o_places])), (a0_parts, .inl (K 2, 5, .inr (.inr (.inr (.inr f_o_parts))))), (a0_sequences, .inl (K 2, 5, .inr (.inr (.inr (.inr f_o_sequences))))), (a0_followers, .inl (K 0, 24, .inl u3))] ++ va_pl LP (pcs PF)) H := hP
      have hD : va_D A ([(a0, .inr (9, [.ref w_o_noWord, .ref w_o_emptyWord, .ref a0_set, .ref a0_choices, .ref a0_sequences, .ref a0_parts, .int v_o_depth, .ref a0_letters, .ref a0_followers, .int v_o_places])), (a0_parts, .inl (K 2, 5, .inr (.inr (.inr (.inr f_o_parts))))), (a0_sequences, .inl (K 2, 5, .inr (.inr (.inr (.inr f_o_sequences))))), (a0_followers, .inl (K 0, 24, .inl u3))] ++ va_pl LP (pcs PF)) := hD
      refine lv_aload_n hx hb d_RuleText_addPart_34 rfl (lv_at hl 1 rfl) ?_
      refine va_get (ci := 9) (v := .ref a0_sequences) hx hb htg in_RuleText hown hK hP 0 rfl rfl 4 (by decide) (htg _ m_55) (fun _ h9 => h9) rfl d_RuleText_addPart_35 ?_
      refine lv_aload_n hx hb d_RuleText_addPart_38 rfl (lv_at hl 1 rfl) ?_
      refine va_get (ci := 9) (v := .int v_o_depth) hx hb htg in_RuleText hown hK hP 0 rfl rfl 6 (by decide) (htg _ m_57) (fun _ h9 => h9) rfl d_RuleText_addPart_39 ?_
      refine lv_aload_n hx hb d_RuleText_addPart_42 rfl (lv_at hl 1 rfl) ?_
      refine va_get (ci := 9) (v := .ref a0_sequences) hx hb htg in_RuleText hown hK hP 0 rfl rfl 4 (by decide) (htg _ m_55) (fun _ h9 => h9) rfl d_RuleText_addPart_43 ?_
      refine lv_aload_n hx hb d_RuleText_addPart_46 rfl (lv_at hl 1 rfl) ?_
      refine va_get (ci := 9) (v := .int v_o_depth) hx hb htg in_RuleText hown hK hP 0 rfl rfl 6 (by decide) (htg _ m_57) (fun _ h9 => h9) rfl d_RuleText_addPart_47 ?_
      obtain ⟨hin, h⟩ := h
      refine va_aldq hx hb hK hP 2 2 rfl rfl hin d_RuleText_addPart_50 ?_
      rcases ho : f_o_sequences v_o_depth.toNatClampNeg with _ | z5
      · replace h := h.1 ho
        refine W.eq (g2 := F0 m 51 ls [.null, .int v_o_depth, .ref a0_sequences]) rfl ?_
        exact False.elim h
      · replace h := h.2 z5 ho
        refine W.eq (g2 := F0 m 51 ls [.ref z5, .int v_o_depth, .ref a0_sequences]) rfl ?_
        refine lv_aload_n hx hb d_RuleText_addPart_51 rfl (lv_at hl 0 rfl) ?_
        obtain ⟨hm0, hm1, h⟩ := h
        have hRc : va_P G vwCl [(z5, pcs PF z5), (z1, pcs PF z1)] _ := gPl2 hP hm0 hm1
        refine g_callr0 (va_runV (As := [.ref z1]) (rest := [.int v_o_depth, .ref a0_sequences]) ⟨hx, hb, hml, hown, htg⟩ (k_Piece_then l G K z5 z1 _ (PF z5).1 (PF z5).2.1 (PF z5).2.2 (PF z1).1 (PF z1).2.1 (PF z1).2.2 _ h) (cwV 1 htg (gGoodV m_249 m_250 m_251 m_3 m_252) rfl rfl rfl (by decide +kernel) ⟨(Nat.le_of_ble_eq_true rfl), (Nat.le_of_ble_eq_true rfl)⟩) (gW_preV (ci := 7) (q0 := 0) hK hN va_P_nil (va_D_nil (A := A)) hRc gJ_nil2 hRc rfl rfl) rfl rfl hl.1 rfl (lv_room (Nat.le_of_ble_eq_true rfl)) d_RuleText_addPart_52 ⟨(Nat.le_of_ble_eq_true rfl), (Nat.le_of_ble_eq_true rfl)⟩) hP hD hS hA (fun u q6 H locs h hP hD hS => ?_)
        obtain ⟨u7, u8, u9⟩ := u
        try dsimp only at h
        have hq := va_pl_fresh2 hD
        replace h := h q6 hq
        have hP := g_pushP hq hP
        have hD := g_pushD hq hD
        have hP : va_P G vwCl ([(a0, .inr (9, [.ref w_o_noWord, .ref w_o_emptyWord, .ref a0_set, .ref a0_choices, .ref a0_sequences, .ref a0_parts, .int v_o_depth, .ref a0_letters, .ref a0_followers, .int v_o_places])), (a0_parts, .inl (K 2, 5, .inr (.inr (.inr (.inr f_o_parts))))), (a0_sequences, .inl (K 2, 5, .inr (.inr (.inr (.inr f_o_sequences))))), (a0_followers, .inl (K 0, 24, .inl u3))] ++ va_pl (LP ++ [q6]) (pcs (va_up PF q6 (u7, u8, u9)))) H := hP
        have hD : va_D A ([(a0, .inr (9, [.ref w_o_noWord, .ref w_o_emptyWord, .ref a0_set, .ref a0_choices, .ref a0_sequences, .ref a0_parts, .int v_o_depth, .ref a0_letters, .ref a0_followers, .int v_o_places])), (a0_parts, .inl (K 2, 5, .inr (.inr (.inr (.inr f_o_parts))))), (a0_sequences, .inl (K 2, 5, .inr (.inr (.inr (.inr f_o_sequences))))), (a0_followers, .inl (K 0, 24, .inl u3))] ++ va_pl (LP ++ [q6]) (pcs (va_up PF q6 (u7, u8, u9)))) := hD
        obtain ⟨hin, h⟩ := h
        obtain ⟨hm, h⟩ := h
        obtain ⟨k9, hk9⟩ := va_pl_get (X := [(a0, .inr (9, [.ref w_o_noWord, .ref w_o_emptyWord, .ref a0_set, .ref a0_choices, .ref a0_sequences, .ref a0_parts, .int v_o_depth, .ref a0_letters, .ref a0_followers, .int v_o_places])), (a0_parts, .inl (K 2, 5, .inr (.inr (.inr (.inr f_o_parts))))), (a0_sequences, .inl (K 2, 5, .inr (.inr (.inr (.inr f_o_sequences))))), (a0_followers, .inl (K 0, 24, .inl u3))]) (f := pcs (va_up PF q6 (u7, u8, u9))) hm
        refine va_astq hx hb hK hP hD hS 2 2 k9 7 rfl rfl hk9 rfl hin d_RuleText_addPart_55 (fun H locs hP hD hS => ?_)
        have hP : va_P G vwCl ([(a0, .inr (9, [.ref w_o_noWord, .ref w_o_emptyWord, .ref a0_set, .ref a0_choices, .ref a0_sequences, .ref a0_parts, .int v_o_depth, .ref a0_letters, .ref a0_followers, .int v_o_places])), (a0_parts, .inl (K 2, 5, .inr (.inr (.inr (.inr f_o_parts))))), (a0_sequences, .inl (K 2, 5, .inr (.inr (.inr (.inr (va_up f_o_sequences v_o_depth.toNatClampNeg (some q6))))))), (a0_followers, .inl (K 0, 24, .inl u3))] ++ va_pl (LP ++ [q6]) (pcs (va_up PF q6 (u7, u8, u9)))) H := hP
        have hD : va_D A ([(a0, .inr (9, [.ref w_o_noWord, .ref w_o_emptyWord, .ref a0_set, .ref a0_choices, .ref a0_sequences, .ref a0_parts, .int v_o_depth, .ref a0_letters, .ref a0_followers, .int v_o_places])), (a0_parts, .inl (K 2, 5, .inr (.inr (.inr (.inr f_o_parts))))), (a0_sequences, .inl (K 2, 5, .inr (.inr (.inr (.inr (va_up f_o_sequences v_o_depth.toNatClampNeg (some q6))))))), (a0_followers, .inl (K 0, 24, .inl u3))] ++ va_pl (LP ++ [q6]) (pcs (va_up PF q6 (u7, u8, u9)))) := hD
        refine lv_aload_n hx hb d_RuleText_addPart_56 rfl (lv_at hl 1 rfl) ?_
        refine va_get (ci := 9) (v := .ref a0_parts) hx hb htg in_RuleText hown hK hP 0 rfl rfl 5 (by decide) (htg _ m_56) (fun _ h9 => h9) rfl d_RuleText_addPart_57 ?_
        refine lv_aload_n hx hb d_RuleText_addPart_60 rfl (lv_at hl 1 rfl) ?_
        refine va_get (ci := 9) (v := .int v_o_depth) hx hb htg in_RuleText hown hK hP 0 rfl rfl 6 (by decide) (htg _ m_57) (fun _ h9 => h9) rfl d_RuleText_addPart_61 ?_
        refine lv_aload_n hx hb d_RuleText_addPart_64 rfl (lv_at hl 2 rfl) ?_
        obtain ⟨hin, h⟩ := h
        obtain ⟨hm, h⟩ := h
        obtain ⟨k9, hk9⟩ := va_pl_get (X := [(a0, .inr (9, [.ref w_o_noWord, .ref w_o_emptyWord, .ref a0_set, .ref a0_choices, .ref a0_sequences, .ref a0_parts, .int v_o_depth, .ref a0_letters, .ref a0_followers, .int v_o_places])), (a0_parts, .inl (K 2, 5, .inr (.inr (.inr (.inr f_o_parts))))), (a0_sequences, .inl (K 2, 5, .inr (.inr (.inr (.inr (va_up f_o_sequences v_o_depth.toNatClampNeg (some q6))))))), (a0_followers, .inl (K 0, 24, .inl u3))]) (f := pcs (va_up PF q6 (u7, u8, u9))) hm
        refine va_astq hx hb hK hP hD hS 1 2 k9 7 rfl rfl hk9 rfl hin d_RuleText_addPart_65 (fun H locs hP hD hS => ?_)
        have hP : va_P G vwCl ([(a0, .inr (9, [.ref w_o_noWord, .ref w_o_emptyWord, .ref a0_set, .ref a0_choices, .ref a0_sequences, .ref a0_parts, .int v_o_depth, .ref a0_letters, .ref a0_followers, .int v_o_places])), (a0_parts, .inl (K 2, 5, .inr (.inr (.inr (.inr (va_up f_o_parts v_o_depth.toNatClampNeg (some x1))))))), (a0_sequences, .inl (K 2, 5, .inr (.inr (.inr (.inr (va_up f_o_sequences v_o_depth.toNatClampNeg (some q6))))))), (a0_followers, .inl (K 0, 24, .inl u3))] ++ va_pl (LP ++ [q6]) (pcs (va_up PF q6 (u7, u8, u9)))) H := hP
        have hD : va_D A ([(a0, .inr (9, [.ref w_o_noWord, .ref w_o_emptyWord, .ref a0_set, .ref a0_choices, .ref a0_sequences, .ref a0_parts, .int v_o_depth, .ref a0_letters, .ref a0_followers, .int v_o_places])), (a0_parts, .inl (K 2, 5, .inr (.inr (.inr (.inr (va_up f_o_parts v_o_depth.toNatClampNeg (some x1))))))), (a0_sequences, .inl (K 2, 5, .inr (.inr (.inr (.inr (va_up f_o_sequences v_o_depth.toNatClampNeg (some q6))))))), (a0_followers, .inl (K 0, 24, .inl u3))] ++ va_pl (LP ++ [q6]) (pcs (va_up PF q6 (u7, u8, u9)))) := hD
        exact hret ((va_up f_o_parts v_o_depth.toNatClampNeg (some x1)), (va_up f_o_sequences v_o_depth.toNatClampNeg (some q6)), u3, (LP ++ [q6]), (va_up PF q6 (u7, u8, u9))) _ _ _ _ h (hP.part [0, 1, 2, 3] rfl) (hD.part [0, 1, 2, 3] (by decide) rfl) hS d_RuleText_addPart_66
def p_RuleText_openLevel (w_o_noWord : Nat) (w_o_emptyWord : Nat) (f_o_choices : (Nat → Option Nat)) (f_o_sequences : (Nat → Option Nat)) (f_o_parts : (Nat → Option Nat)) (LP : (List Nat)) (x1 : Int32) (post : Int32 → (Nat → Option Nat) → (Nat → Option Nat) → (Nat → Option Nat) → Prop) : Prop := (vp_in x1 5 ∧ (w_o_noWord ∈ LP ∧ (vp_in x1 5 ∧ (w_o_emptyWord ∈ LP ∧ (vp_in x1 5 ∧ (post x1 (va_up f_o_choices x1.toNatClampNeg (some w_o_noWord)) (va_up f_o_sequences x1.toNatClampNeg (some w_o_emptyWord)) (va_up f_o_parts x1.toNatClampNeg none)))))))
set_option maxHeartbeats 4000000 in
set_option maxRecDepth 100000 in
theorem k_RuleText_openLevel (l : Launch) (G : va_G) (K : Nat → ClassId) (a0 a0_choices a0_sequences a0_parts a0_set a0_letters a0_followers : Nat) (sz : Nat) (w_o_noWord : Nat) (w_o_emptyWord : Nat) (v_o_depth : Int32) (v_o_places : Int32) (f_o_choices : (Nat → Option Nat)) (f_o_sequences : (Nat → Option Nat)) (f_o_parts : (Nat → Option Nat)) (LP : (List Nat)) (PF : (Nat → Int32 × Int32 × Int32)) (x1 : Int32) (post : Int32 → (Nat → Option Nat) → (Nat → Option Nat) → (Nat → Option Nat) → Prop) (h : p_RuleText_openLevel w_o_noWord w_o_emptyWord f_o_choices f_o_sequences f_o_parts LP x1 post) : MWv l y_RuleText_openLevel (.code y_RuleText_openLevel c_RuleText_openLevel 2 none) { frames := 0, cells := 0, slots := 0, locals := 0 } G K ([(a0, .inr (9, [.ref w_o_noWord, .ref w_o_emptyWord, .ref a0_set, .ref a0_choices, .ref a0_sequences, .ref a0_parts, .int v_o_depth, .ref a0_letters, .ref a0_followers, .int v_o_places])), (a0_choices, .inl (K 2, 5, .inr (.inr (.inr (.inr f_o_choices))))), (a0_sequences, .inl (K 2, 5, .inr (.inr (.inr (.inr f_o_sequences))))), (a0_parts, .inl (K 2, 5, .inr (.inr (.inr (.inr f_o_parts)))))] ++ va_pl LP (pcs PF)) [] [.ref a0, .int x1] sz (fun (u : Int32 × (Nat → Option Nat) × (Nat → Option Nat) × (Nat → Option Nat)) => post u.1 u.2.1 u.2.2.1 u.2.2.2) (fun u => ([(a0, .inr (9, [.ref w_o_noWord, .ref w_o_emptyWord, .ref a0_set, .ref a0_choices, .ref a0_sequences, .ref a0_parts, .int u.1, .ref a0_letters, .ref a0_followers, .int v_o_places])), (a0_choices, .inl (K 2, 5, .inr (.inr (.inr (.inr u.2.1))))), (a0_sequences, .inl (K 2, 5, .inr (.inr (.inr (.inr u.2.2.1))))), (a0_parts, .inl (K 2, 5, .inr (.inr (.inr (.inr u.2.2.2)))))] ++ va_pl LP (pcs PF))) 0 0 := by
  refine g_metWv (cc := c_RuleText_openLevel) (maxL := 2) (ret := none) (by decide) rfl rfl (Nat.le_of_ble_eq_true rfl) ?_
  intro p e s m below meth c A Q hx hb hml hown hname htg hK hN hP hD hA hS hR rN hret ls hl
  have hl : lv_has ls 2 [(0, .ref a0), (1, .int x1)] := hl
  refine lv_aload_n hx hb d_RuleText_openLevel_0 rfl (lv_at hl 0 rfl) ?_
  refine lv_iload_n hx hb d_RuleText_openLevel_1 rfl (lv_at hl 1 rfl) ?_
  refine va_put (ci := 9) (v := .int x1) (ty := .int) hx hb htg in_RuleText t_RuleText tok_RuleText nm_RuleText hown hK hP hD hS 0 rfl rfl 6 (by decide) (htg _ m_57) (fun _ h9 => h9) rfl (by decide +kernel) rfl rfl (Nat.le_of_ble_eq_true rfl) d_RuleText_openLevel_2 (fun H locs hP hD hS => ?_)
  have hP : va_P G vwCl ([(a0, .inr (9, [.ref w_o_noWord, .ref w_o_emptyWord, .ref a0_set, .ref a0_choices, .ref a0_sequences, .ref a0_parts, .int x1, .ref a0_letters, .ref a0_followers, .int v_o_places])), (a0_choices, .inl (K 2, 5, .inr (.inr (.inr (.inr f_o_choices))))), (a0_sequences, .inl (K 2, 5, .inr (.inr (.inr (.inr f_o_sequences))))), (a0_parts, .inl (K 2, 5, .inr (.inr (.inr (.inr f_o_parts)))))] ++ va_pl LP (pcs PF)) H := hP
  have hD : va_D A ([(a0, .inr (9, [.ref w_o_noWord, .ref w_o_emptyWord, .ref a0_set, .ref a0_choices, .ref a0_sequences, .ref a0_parts, .int x1, .ref a0_letters, .ref a0_followers, .int v_o_places])), (a0_choices, .inl (K 2, 5, .inr (.inr (.inr (.inr f_o_choices))))), (a0_sequences, .inl (K 2, 5, .inr (.inr (.inr (.inr f_o_sequences))))), (a0_parts, .inl (K 2, 5, .inr (.inr (.inr (.inr f_o_parts)))))] ++ va_pl LP (pcs PF)) := hD
  refine lv_aload_n hx hb d_RuleText_openLevel_5 rfl (lv_at hl 0 rfl) ?_
  refine va_get (ci := 9) (v := .ref a0_choices) hx hb htg in_RuleText hown hK hP 0 rfl rfl 3 (by decide) (htg _ m_54) (fun _ h9 => h9) rfl d_RuleText_openLevel_6 ?_
  refine lv_iload_n hx hb d_RuleText_openLevel_9 rfl (lv_at hl 1 rfl) ?_
  refine lv_aload_n hx hb d_RuleText_openLevel_10 rfl (lv_at hl 0 rfl) ?_
  refine va_get (ci := 9) (v := .ref w_o_noWord) hx hb htg in_RuleText hown hK hP 0 rfl rfl 0 (by decide) (htg _ m_51) (fun _ h9 => h9) rfl d_RuleText_openLevel_11 ?_
  obtain ⟨hin, h⟩ := h
  obtain ⟨hm, h⟩ := h
  obtain ⟨k9, hk9⟩ := va_pl_get (X := [(a0, .inr (9, [.ref w_o_noWord, .ref w_o_emptyWord, .ref a0_set, .ref a0_choices, .ref a0_sequences, .ref a0_parts, .int x1, .ref a0_letters, .ref a0_followers, .int v_o_places])), (a0_choices, .inl (K 2, 5, .inr (.inr (.inr (.inr f_o_choices))))), (a0_sequences, .inl (K 2, 5, .inr (.inr (.inr (.inr f_o_sequences))))), (a0_parts, .inl (K 2, 5, .inr (.inr (.inr (.inr f_o_parts)))))]) (f := pcs PF) hm
  refine va_astq hx hb hK hP hD hS 1 2 k9 7 rfl rfl hk9 rfl hin d_RuleText_openLevel_14 (fun H locs hP hD hS => ?_)
  have hP : va_P G vwCl ([(a0, .inr (9, [.ref w_o_noWord, .ref w_o_emptyWord, .ref a0_set, .ref a0_choices, .ref a0_sequences, .ref a0_parts, .int x1, .ref a0_letters, .ref a0_followers, .int v_o_places])), (a0_choices, .inl (K 2, 5, .inr (.inr (.inr (.inr (va_up f_o_choices x1.toNatClampNeg (some w_o_noWord))))))), (a0_sequences, .inl (K 2, 5, .inr (.inr (.inr (.inr f_o_sequences))))), (a0_parts, .inl (K 2, 5, .inr (.inr (.inr (.inr f_o_parts)))))] ++ va_pl LP (pcs PF)) H := hP
  have hD : va_D A ([(a0, .inr (9, [.ref w_o_noWord, .ref w_o_emptyWord, .ref a0_set, .ref a0_choices, .ref a0_sequences, .ref a0_parts, .int x1, .ref a0_letters, .ref a0_followers, .int v_o_places])), (a0_choices, .inl (K 2, 5, .inr (.inr (.inr (.inr (va_up f_o_choices x1.toNatClampNeg (some w_o_noWord))))))), (a0_sequences, .inl (K 2, 5, .inr (.inr (.inr (.inr f_o_sequences))))), (a0_parts, .inl (K 2, 5, .inr (.inr (.inr (.inr f_o_parts)))))] ++ va_pl LP (pcs PF)) := hD
  refine lv_aload_n hx hb d_RuleText_openLevel_15 rfl (lv_at hl 0 rfl) ?_
  refine va_get (ci := 9) (v := .ref a0_sequences) hx hb htg in_RuleText hown hK hP 0 rfl rfl 4 (by decide) (htg _ m_55) (fun _ h9 => h9) rfl d_RuleText_openLevel_16 ?_
  refine lv_iload_n hx hb d_RuleText_openLevel_19 rfl (lv_at hl 1 rfl) ?_
  refine lv_aload_n hx hb d_RuleText_openLevel_20 rfl (lv_at hl 0 rfl) ?_
  refine va_get (ci := 9) (v := .ref w_o_emptyWord) hx hb htg in_RuleText hown hK hP 0 rfl rfl 1 (by decide) (htg _ m_52) (fun _ h9 => h9) rfl d_RuleText_openLevel_21 ?_
  obtain ⟨hin, h⟩ := h
  obtain ⟨hm, h⟩ := h
  obtain ⟨k9, hk9⟩ := va_pl_get (X := [(a0, .inr (9, [.ref w_o_noWord, .ref w_o_emptyWord, .ref a0_set, .ref a0_choices, .ref a0_sequences, .ref a0_parts, .int x1, .ref a0_letters, .ref a0_followers, .int v_o_places])), (a0_choices, .inl (K 2, 5, .inr (.inr (.inr (.inr (va_up f_o_choices x1.toNatClampNeg (some w_o_noWord))))))), (a0_sequences, .inl (K 2, 5, .inr (.inr (.inr (.inr f_o_sequences))))), (a0_parts, .inl (K 2, 5, .inr (.inr (.inr (.inr f_o_parts)))))]) (f := pcs PF) hm
  refine va_astq hx hb hK hP hD hS 2 2 k9 7 rfl rfl hk9 rfl hin d_RuleText_openLevel_24 (fun H locs hP hD hS => ?_)
  have hP : va_P G vwCl ([(a0, .inr (9, [.ref w_o_noWord, .ref w_o_emptyWord, .ref a0_set, .ref a0_choices, .ref a0_sequences, .ref a0_parts, .int x1, .ref a0_letters, .ref a0_followers, .int v_o_places])), (a0_choices, .inl (K 2, 5, .inr (.inr (.inr (.inr (va_up f_o_choices x1.toNatClampNeg (some w_o_noWord))))))), (a0_sequences, .inl (K 2, 5, .inr (.inr (.inr (.inr (va_up f_o_sequences x1.toNatClampNeg (some w_o_emptyWord))))))), (a0_parts, .inl (K 2, 5, .inr (.inr (.inr (.inr f_o_parts)))))] ++ va_pl LP (pcs PF)) H := hP
  have hD : va_D A ([(a0, .inr (9, [.ref w_o_noWord, .ref w_o_emptyWord, .ref a0_set, .ref a0_choices, .ref a0_sequences, .ref a0_parts, .int x1, .ref a0_letters, .ref a0_followers, .int v_o_places])), (a0_choices, .inl (K 2, 5, .inr (.inr (.inr (.inr (va_up f_o_choices x1.toNatClampNeg (some w_o_noWord))))))), (a0_sequences, .inl (K 2, 5, .inr (.inr (.inr (.inr (va_up f_o_sequences x1.toNatClampNeg (some w_o_emptyWord))))))), (a0_parts, .inl (K 2, 5, .inr (.inr (.inr (.inr f_o_parts)))))] ++ va_pl LP (pcs PF)) := hD
  refine lv_aload_n hx hb d_RuleText_openLevel_25 rfl (lv_at hl 0 rfl) ?_
  refine va_get (ci := 9) (v := .ref a0_parts) hx hb htg in_RuleText hown hK hP 0 rfl rfl 5 (by decide) (htg _ m_56) (fun _ h9 => h9) rfl d_RuleText_openLevel_26 ?_
  refine lv_iload_n hx hb d_RuleText_openLevel_29 rfl (lv_at hl 1 rfl) ?_
  refine lv_null hx hb d_RuleText_openLevel_30 ?_
  obtain ⟨hin, h⟩ := h
  refine va_astqN hx hb hK hP hD hS 3 2 rfl rfl hin d_RuleText_openLevel_31 (fun H locs hP hD hS => ?_)
  have hP : va_P G vwCl ([(a0, .inr (9, [.ref w_o_noWord, .ref w_o_emptyWord, .ref a0_set, .ref a0_choices, .ref a0_sequences, .ref a0_parts, .int x1, .ref a0_letters, .ref a0_followers, .int v_o_places])), (a0_choices, .inl (K 2, 5, .inr (.inr (.inr (.inr (va_up f_o_choices x1.toNatClampNeg (some w_o_noWord))))))), (a0_sequences, .inl (K 2, 5, .inr (.inr (.inr (.inr (va_up f_o_sequences x1.toNatClampNeg (some w_o_emptyWord))))))), (a0_parts, .inl (K 2, 5, .inr (.inr (.inr (.inr (va_up f_o_parts x1.toNatClampNeg none))))))] ++ va_pl LP (pcs PF)) H := hP
  have hD : va_D A ([(a0, .inr (9, [.ref w_o_noWord, .ref w_o_emptyWord, .ref a0_set, .ref a0_choices, .ref a0_sequences, .ref a0_parts, .int x1, .ref a0_letters, .ref a0_followers, .int v_o_places])), (a0_choices, .inl (K 2, 5, .inr (.inr (.inr (.inr (va_up f_o_choices x1.toNatClampNeg (some w_o_noWord))))))), (a0_sequences, .inl (K 2, 5, .inr (.inr (.inr (.inr (va_up f_o_sequences x1.toNatClampNeg (some w_o_emptyWord))))))), (a0_parts, .inl (K 2, 5, .inr (.inr (.inr (.inr (va_up f_o_parts x1.toNatClampNeg none))))))] ++ va_pl LP (pcs PF)) := hD
  exact hret (x1, (va_up f_o_choices x1.toNatClampNeg (some w_o_noWord)), (va_up f_o_sequences x1.toNatClampNeg (some w_o_emptyWord)), (va_up f_o_parts x1.toNatClampNeg none)) _ _ _ _ h (hP.part [0, 1, 2, 3] rfl) (hD.part [0, 1, 2, 3] (by decide) rfl) hS d_RuleText_openLevel_32
