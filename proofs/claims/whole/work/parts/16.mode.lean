theorem d_Mode_init_0 : decode c_Mode_init 0 = .ok (.aload_n 0, 1) := by decide +kernel
theorem d_Mode_init_1 : decode c_Mode_init 1 = .ok (.invokespecial 3, 3) := by decide +kernel
theorem d_Mode_init_4 : decode c_Mode_init 4 = .ok (.aload_n 0, 1) := by decide +kernel
theorem d_Mode_init_5 : decode c_Mode_init 5 = .ok (.bipush 9, 2) := by decide +kernel
theorem d_Mode_init_7 : decode c_Mode_init 7 = .ok (.newarray .int, 2) := by decide +kernel
theorem d_Mode_init_9 : decode c_Mode_init 9 = .ok (.putfield 9, 3) := by decide +kernel
theorem d_Mode_init_12 : decode c_Mode_init 12 = .ok (.aload_n 0, 1) := by decide +kernel
theorem d_Mode_init_13 : decode c_Mode_init 13 = .ok (.bipush 9, 2) := by decide +kernel
theorem d_Mode_init_15 : decode c_Mode_init 15 = .ok (.newarray .int, 2) := by decide +kernel
theorem d_Mode_init_17 : decode c_Mode_init 17 = .ok (.putfield 15, 3) := by decide +kernel
theorem d_Mode_init_20 : decode c_Mode_init 20 = .ok (.aload_n 0, 1) := by decide +kernel
theorem d_Mode_init_21 : decode c_Mode_init 21 = .ok (.bipush 9, 2) := by decide +kernel
theorem d_Mode_init_23 : decode c_Mode_init 23 = .ok (.newarray .int, 2) := by decide +kernel
theorem d_Mode_init_25 : decode c_Mode_init 25 = .ok (.putfield 18, 3) := by decide +kernel
theorem d_Mode_init_28 : decode c_Mode_init 28 = .ok (.aload_n 0, 1) := by decide +kernel
theorem d_Mode_init_29 : decode c_Mode_init 29 = .ok (.iconst 0, 1) := by decide +kernel
theorem d_Mode_init_30 : decode c_Mode_init 30 = .ok (.putfield 21, 3) := by decide +kernel
theorem d_Mode_init_33 : decode c_Mode_init 33 = .ok (.aload_n 0, 1) := by decide +kernel
theorem d_Mode_init_34 : decode c_Mode_init 34 = .ok (.iconst 0, 1) := by decide +kernel
theorem d_Mode_init_35 : decode c_Mode_init 35 = .ok (.putfield 25, 3) := by decide +kernel
theorem d_Mode_init_38 : decode c_Mode_init 38 = .ok (.aload_n 0, 1) := by decide +kernel
theorem d_Mode_init_39 : decode c_Mode_init 39 = .ok (.iconst 0, 1) := by decide +kernel
theorem d_Mode_init_40 : decode c_Mode_init 40 = .ok (.putfield 28, 3) := by decide +kernel
theorem d_Mode_init_43 : decode c_Mode_init 43 = .ok (.return_, 1) := by decide +kernel
theorem d_Mode_placesOf_0 : decode c_Mode_placesOf 0 = .ok (.iconst 0, 1) := by decide +kernel
theorem d_Mode_placesOf_1 : decode c_Mode_placesOf 1 = .ok (.istore_n 2, 1) := by decide +kernel
theorem d_Mode_placesOf_2 : decode c_Mode_placesOf 2 = .ok (.iconst 0, 1) := by decide +kernel
theorem d_Mode_placesOf_3 : decode c_Mode_placesOf 3 = .ok (.istore_n 3, 1) := by decide +kernel
theorem d_Mode_placesOf_4 : decode c_Mode_placesOf 4 = .ok (.iload_n 3, 1) := by decide +kernel
theorem d_Mode_placesOf_5 : decode c_Mode_placesOf 5 = .ok (.aload_n 0, 1) := by decide +kernel
theorem d_Mode_placesOf_6 : decode c_Mode_placesOf 6 = .ok (.getfield 21, 3) := by decide +kernel
theorem d_Mode_placesOf_9 : decode c_Mode_placesOf 9 = .ok (.if_icmp .ge 28, 3) := by decide +kernel
theorem d_Mode_placesOf_12 : decode c_Mode_placesOf 12 = .ok (.aload_n 0, 1) := by decide +kernel
theorem d_Mode_placesOf_13 : decode c_Mode_placesOf 13 = .ok (.getfield 9, 3) := by decide +kernel
theorem d_Mode_placesOf_16 : decode c_Mode_placesOf 16 = .ok (.iload_n 3, 1) := by decide +kernel
theorem d_Mode_placesOf_17 : decode c_Mode_placesOf 17 = .ok (.iaload, 1) := by decide +kernel
theorem d_Mode_placesOf_18 : decode c_Mode_placesOf 18 = .ok (.iload_n 1, 1) := by decide +kernel
theorem d_Mode_placesOf_19 : decode c_Mode_placesOf 19 = .ok (.invokestatic 49, 3) := by decide +kernel
theorem d_Mode_placesOf_22 : decode c_Mode_placesOf 22 = .ok (.ifCond .eq 9, 3) := by decide +kernel
theorem d_Mode_placesOf_25 : decode c_Mode_placesOf 25 = .ok (.iload_n 2, 1) := by decide +kernel
theorem d_Mode_placesOf_26 : decode c_Mode_placesOf 26 = .ok (.iconst 1, 1) := by decide +kernel
theorem d_Mode_placesOf_27 : decode c_Mode_placesOf 27 = .ok (.iload_n 3, 1) := by decide +kernel
theorem d_Mode_placesOf_28 : decode c_Mode_placesOf 28 = .ok (.ishl, 1) := by decide +kernel
theorem d_Mode_placesOf_29 : decode c_Mode_placesOf 29 = .ok (.ior, 1) := by decide +kernel
theorem d_Mode_placesOf_30 : decode c_Mode_placesOf 30 = .ok (.istore_n 2, 1) := by decide +kernel
theorem d_Mode_placesOf_31 : decode c_Mode_placesOf 31 = .ok (.iinc 3 1, 3) := by decide +kernel
theorem d_Mode_placesOf_34 : decode c_Mode_placesOf 34 = .ok (.goto (-30), 3) := by decide +kernel
theorem d_Mode_placesOf_37 : decode c_Mode_placesOf 37 = .ok (.iload_n 2, 1) := by decide +kernel
theorem d_Mode_placesOf_38 : decode c_Mode_placesOf 38 = .ok (.ireturn, 1) := by decide +kernel
theorem d_Mode_placesBehind_0 : decode c_Mode_placesBehind 0 = .ok (.iload_n 1, 1) := by decide +kernel
theorem d_Mode_placesBehind_1 : decode c_Mode_placesBehind 1 = .ok (.ifCond .ne 8, 3) := by decide +kernel
theorem d_Mode_placesBehind_4 : decode c_Mode_placesBehind 4 = .ok (.aload_n 0, 1) := by decide +kernel
theorem d_Mode_placesBehind_5 : decode c_Mode_placesBehind 5 = .ok (.getfield 25, 3) := by decide +kernel
theorem d_Mode_placesBehind_8 : decode c_Mode_placesBehind 8 = .ok (.ireturn, 1) := by decide +kernel
theorem d_Mode_placesBehind_9 : decode c_Mode_placesBehind 9 = .ok (.iconst 0, 1) := by decide +kernel
theorem d_Mode_placesBehind_10 : decode c_Mode_placesBehind 10 = .ok (.istore_n 2, 1) := by decide +kernel
theorem d_Mode_placesBehind_11 : decode c_Mode_placesBehind 11 = .ok (.iconst 0, 1) := by decide +kernel
theorem d_Mode_placesBehind_12 : decode c_Mode_placesBehind 12 = .ok (.istore_n 3, 1) := by decide +kernel
theorem d_Mode_placesBehind_13 : decode c_Mode_placesBehind 13 = .ok (.iload_n 3, 1) := by decide +kernel
theorem d_Mode_placesBehind_14 : decode c_Mode_placesBehind 14 = .ok (.aload_n 0, 1) := by decide +kernel
theorem d_Mode_placesBehind_15 : decode c_Mode_placesBehind 15 = .ok (.getfield 21, 3) := by decide +kernel
theorem d_Mode_placesBehind_18 : decode c_Mode_placesBehind 18 = .ok (.if_icmp .ge 26, 3) := by decide +kernel
theorem d_Mode_placesBehind_21 : decode c_Mode_placesBehind 21 = .ok (.iload_n 1, 1) := by decide +kernel
theorem d_Mode_placesBehind_22 : decode c_Mode_placesBehind 22 = .ok (.iload_n 3, 1) := by decide +kernel
theorem d_Mode_placesBehind_23 : decode c_Mode_placesBehind 23 = .ok (.invokestatic 49, 3) := by decide +kernel
theorem d_Mode_placesBehind_26 : decode c_Mode_placesBehind 26 = .ok (.ifCond .eq 12, 3) := by decide +kernel
theorem d_Mode_placesBehind_29 : decode c_Mode_placesBehind 29 = .ok (.iload_n 2, 1) := by decide +kernel
theorem d_Mode_placesBehind_30 : decode c_Mode_placesBehind 30 = .ok (.aload_n 0, 1) := by decide +kernel
theorem d_Mode_placesBehind_31 : decode c_Mode_placesBehind 31 = .ok (.getfield 15, 3) := by decide +kernel
theorem d_Mode_placesBehind_34 : decode c_Mode_placesBehind 34 = .ok (.iload_n 3, 1) := by decide +kernel
theorem d_Mode_placesBehind_35 : decode c_Mode_placesBehind 35 = .ok (.iaload, 1) := by decide +kernel
theorem d_Mode_placesBehind_36 : decode c_Mode_placesBehind 36 = .ok (.ior, 1) := by decide +kernel
theorem d_Mode_placesBehind_37 : decode c_Mode_placesBehind 37 = .ok (.istore_n 2, 1) := by decide +kernel
theorem d_Mode_placesBehind_38 : decode c_Mode_placesBehind 38 = .ok (.iinc 3 1, 3) := by decide +kernel
theorem d_Mode_placesBehind_41 : decode c_Mode_placesBehind 41 = .ok (.goto (-28), 3) := by decide +kernel
theorem d_Mode_placesBehind_44 : decode c_Mode_placesBehind 44 = .ok (.iload_n 2, 1) := by decide +kernel
theorem d_Mode_placesBehind_45 : decode c_Mode_placesBehind 45 = .ok (.ireturn, 1) := by decide +kernel
theorem d_Mode_winnerOf_0 : decode c_Mode_winnerOf 0 = .ok (.iconst 0, 1) := by decide +kernel
theorem d_Mode_winnerOf_1 : decode c_Mode_winnerOf 1 = .ok (.istore_n 2, 1) := by decide +kernel
theorem d_Mode_winnerOf_2 : decode c_Mode_winnerOf 2 = .ok (.iload_n 2, 1) := by decide +kernel
theorem d_Mode_winnerOf_3 : decode c_Mode_winnerOf 3 = .ok (.aload_n 0, 1) := by decide +kernel
theorem d_Mode_winnerOf_4 : decode c_Mode_winnerOf 4 = .ok (.getfield 21, 3) := by decide +kernel
theorem d_Mode_winnerOf_7 : decode c_Mode_winnerOf 7 = .ok (.if_icmp .ge 29, 3) := by decide +kernel
theorem d_Mode_winnerOf_10 : decode c_Mode_winnerOf 10 = .ok (.iload_n 1, 1) := by decide +kernel
theorem d_Mode_winnerOf_11 : decode c_Mode_winnerOf 11 = .ok (.aload_n 0, 1) := by decide +kernel
theorem d_Mode_winnerOf_12 : decode c_Mode_winnerOf 12 = .ok (.getfield 28, 3) := by decide +kernel
theorem d_Mode_winnerOf_15 : decode c_Mode_winnerOf 15 = .ok (.iand, 1) := by decide +kernel
theorem d_Mode_winnerOf_16 : decode c_Mode_winnerOf 16 = .ok (.iload_n 2, 1) := by decide +kernel
theorem d_Mode_winnerOf_17 : decode c_Mode_winnerOf 17 = .ok (.invokestatic 49, 3) := by decide +kernel
theorem d_Mode_winnerOf_20 : decode c_Mode_winnerOf 20 = .ok (.ifCond .eq 10, 3) := by decide +kernel
theorem d_Mode_winnerOf_23 : decode c_Mode_winnerOf 23 = .ok (.aload_n 0, 1) := by decide +kernel
theorem d_Mode_winnerOf_24 : decode c_Mode_winnerOf 24 = .ok (.getfield 18, 3) := by decide +kernel
theorem d_Mode_winnerOf_27 : decode c_Mode_winnerOf 27 = .ok (.iload_n 2, 1) := by decide +kernel
theorem d_Mode_winnerOf_28 : decode c_Mode_winnerOf 28 = .ok (.iaload, 1) := by decide +kernel
theorem d_Mode_winnerOf_29 : decode c_Mode_winnerOf 29 = .ok (.ireturn, 1) := by decide +kernel
theorem d_Mode_winnerOf_30 : decode c_Mode_winnerOf 30 = .ok (.iinc 2 1, 3) := by decide +kernel
theorem d_Mode_winnerOf_33 : decode c_Mode_winnerOf 33 = .ok (.goto (-31), 3) := by decide +kernel
theorem d_Mode_winnerOf_36 : decode c_Mode_winnerOf 36 = .ok (.iconst (-1), 1) := by decide +kernel
theorem d_Mode_winnerOf_37 : decode c_Mode_winnerOf 37 = .ok (.ireturn, 1) := by decide +kernel
theorem d_Mode_hasRoomFor_0 : decode c_Mode_hasRoomFor 0 = .ok (.aload_n 0, 1) := by decide +kernel
theorem d_Mode_hasRoomFor_1 : decode c_Mode_hasRoomFor 1 = .ok (.getfield 21, 3) := by decide +kernel
theorem d_Mode_hasRoomFor_4 : decode c_Mode_hasRoomFor 4 = .ok (.aload_n 1, 1) := by decide +kernel
theorem d_Mode_hasRoomFor_5 : decode c_Mode_hasRoomFor 5 = .ok (.invokevirtual 31, 3) := by decide +kernel
theorem d_Mode_hasRoomFor_8 : decode c_Mode_hasRoomFor 8 = .ok (.iadd, 1) := by decide +kernel
theorem d_Mode_hasRoomFor_9 : decode c_Mode_hasRoomFor 9 = .ok (.bipush 9, 2) := by decide +kernel
theorem d_Mode_hasRoomFor_11 : decode c_Mode_hasRoomFor 11 = .ok (.if_icmp .gt 7, 3) := by decide +kernel
theorem d_Mode_hasRoomFor_14 : decode c_Mode_hasRoomFor 14 = .ok (.iconst 1, 1) := by decide +kernel
theorem d_Mode_hasRoomFor_15 : decode c_Mode_hasRoomFor 15 = .ok (.goto 4, 3) := by decide +kernel
theorem d_Mode_hasRoomFor_18 : decode c_Mode_hasRoomFor 18 = .ok (.iconst 0, 1) := by decide +kernel
theorem d_Mode_hasRoomFor_19 : decode c_Mode_hasRoomFor 19 = .ok (.ireturn, 1) := by decide +kernel
theorem d_Mode_add_0 : decode c_Mode_add 0 = .ok (.aload_n 0, 1) := by decide +kernel
theorem d_Mode_add_1 : decode c_Mode_add 1 = .ok (.dup, 1) := by decide +kernel
theorem d_Mode_add_2 : decode c_Mode_add 2 = .ok (.getfield 25, 3) := by decide +kernel
theorem d_Mode_add_5 : decode c_Mode_add 5 = .ok (.aload_n 1, 1) := by decide +kernel
theorem d_Mode_add_6 : decode c_Mode_add 6 = .ok (.invokevirtual 36, 3) := by decide +kernel
theorem d_Mode_add_9 : decode c_Mode_add 9 = .ok (.aload_n 0, 1) := by decide +kernel
theorem d_Mode_add_10 : decode c_Mode_add 10 = .ok (.getfield 21, 3) := by decide +kernel
theorem d_Mode_add_13 : decode c_Mode_add 13 = .ok (.ishl, 1) := by decide +kernel
theorem d_Mode_add_14 : decode c_Mode_add 14 = .ok (.ior, 1) := by decide +kernel
theorem d_Mode_add_15 : decode c_Mode_add 15 = .ok (.putfield 25, 3) := by decide +kernel
theorem d_Mode_add_18 : decode c_Mode_add 18 = .ok (.aload_n 0, 1) := by decide +kernel
theorem d_Mode_add_19 : decode c_Mode_add 19 = .ok (.dup, 1) := by decide +kernel
theorem d_Mode_add_20 : decode c_Mode_add 20 = .ok (.getfield 28, 3) := by decide +kernel
theorem d_Mode_add_23 : decode c_Mode_add 23 = .ok (.aload_n 1, 1) := by decide +kernel
theorem d_Mode_add_24 : decode c_Mode_add 24 = .ok (.invokevirtual 39, 3) := by decide +kernel
theorem d_Mode_add_27 : decode c_Mode_add 27 = .ok (.aload_n 0, 1) := by decide +kernel
theorem d_Mode_add_28 : decode c_Mode_add 28 = .ok (.getfield 21, 3) := by decide +kernel
theorem d_Mode_add_31 : decode c_Mode_add 31 = .ok (.ishl, 1) := by decide +kernel
theorem d_Mode_add_32 : decode c_Mode_add 32 = .ok (.ior, 1) := by decide +kernel
theorem d_Mode_add_33 : decode c_Mode_add 33 = .ok (.putfield 28, 3) := by decide +kernel
theorem d_Mode_add_36 : decode c_Mode_add 36 = .ok (.aload_n 0, 1) := by decide +kernel
theorem d_Mode_add_37 : decode c_Mode_add 37 = .ok (.getfield 21, 3) := by decide +kernel
theorem d_Mode_add_40 : decode c_Mode_add 40 = .ok (.istore_n 3, 1) := by decide +kernel
theorem d_Mode_add_41 : decode c_Mode_add 41 = .ok (.iconst 0, 1) := by decide +kernel
theorem d_Mode_add_42 : decode c_Mode_add 42 = .ok (.istore 4, 2) := by decide +kernel
theorem d_Mode_add_44 : decode c_Mode_add 44 = .ok (.iload 4, 2) := by decide +kernel
theorem d_Mode_add_46 : decode c_Mode_add 46 = .ok (.aload_n 1, 1) := by decide +kernel
theorem d_Mode_add_47 : decode c_Mode_add 47 = .ok (.invokevirtual 31, 3) := by decide +kernel
theorem d_Mode_add_50 : decode c_Mode_add 50 = .ok (.if_icmp .ge 70, 3) := by decide +kernel
theorem d_Mode_add_53 : decode c_Mode_add 53 = .ok (.aload_n 0, 1) := by decide +kernel
theorem d_Mode_add_54 : decode c_Mode_add 54 = .ok (.getfield 21, 3) := by decide +kernel
theorem d_Mode_add_57 : decode c_Mode_add 57 = .ok (.bipush 9, 2) := by decide +kernel
theorem d_Mode_add_59 : decode c_Mode_add 59 = .ok (.if_icmp .ge 61, 3) := by decide +kernel
theorem d_Mode_add_62 : decode c_Mode_add 62 = .ok (.aload_n 0, 1) := by decide +kernel
theorem d_Mode_add_63 : decode c_Mode_add 63 = .ok (.getfield 9, 3) := by decide +kernel
theorem d_Mode_add_66 : decode c_Mode_add 66 = .ok (.aload_n 0, 1) := by decide +kernel
theorem d_Mode_add_67 : decode c_Mode_add 67 = .ok (.getfield 21, 3) := by decide +kernel
theorem d_Mode_add_70 : decode c_Mode_add 70 = .ok (.aload_n 1, 1) := by decide +kernel
theorem d_Mode_add_71 : decode c_Mode_add 71 = .ok (.iload 4, 2) := by decide +kernel
theorem d_Mode_add_73 : decode c_Mode_add 73 = .ok (.invokevirtual 42, 3) := by decide +kernel
theorem d_Mode_add_76 : decode c_Mode_add 76 = .ok (.iastore, 1) := by decide +kernel
theorem d_Mode_add_77 : decode c_Mode_add 77 = .ok (.aload_n 0, 1) := by decide +kernel
theorem d_Mode_add_78 : decode c_Mode_add 78 = .ok (.getfield 15, 3) := by decide +kernel
theorem d_Mode_add_81 : decode c_Mode_add 81 = .ok (.aload_n 0, 1) := by decide +kernel
theorem d_Mode_add_82 : decode c_Mode_add 82 = .ok (.getfield 21, 3) := by decide +kernel
theorem d_Mode_add_85 : decode c_Mode_add 85 = .ok (.aload_n 1, 1) := by decide +kernel
theorem d_Mode_add_86 : decode c_Mode_add 86 = .ok (.iload 4, 2) := by decide +kernel
theorem d_Mode_add_88 : decode c_Mode_add 88 = .ok (.invokevirtual 46, 3) := by decide +kernel
theorem d_Mode_add_91 : decode c_Mode_add 91 = .ok (.iload_n 3, 1) := by decide +kernel
theorem d_Mode_add_92 : decode c_Mode_add 92 = .ok (.ishl, 1) := by decide +kernel
theorem d_Mode_add_93 : decode c_Mode_add 93 = .ok (.iastore, 1) := by decide +kernel
theorem d_Mode_add_94 : decode c_Mode_add 94 = .ok (.aload_n 0, 1) := by decide +kernel
theorem d_Mode_add_95 : decode c_Mode_add 95 = .ok (.getfield 18, 3) := by decide +kernel
theorem d_Mode_add_98 : decode c_Mode_add 98 = .ok (.aload_n 0, 1) := by decide +kernel
theorem d_Mode_add_99 : decode c_Mode_add 99 = .ok (.getfield 21, 3) := by decide +kernel
theorem d_Mode_add_102 : decode c_Mode_add 102 = .ok (.iload_n 2, 1) := by decide +kernel
theorem d_Mode_add_103 : decode c_Mode_add 103 = .ok (.iastore, 1) := by decide +kernel
theorem d_Mode_add_104 : decode c_Mode_add 104 = .ok (.aload_n 0, 1) := by decide +kernel
theorem d_Mode_add_105 : decode c_Mode_add 105 = .ok (.dup, 1) := by decide +kernel
theorem d_Mode_add_106 : decode c_Mode_add 106 = .ok (.getfield 21, 3) := by decide +kernel
theorem d_Mode_add_109 : decode c_Mode_add 109 = .ok (.iconst 1, 1) := by decide +kernel
theorem d_Mode_add_110 : decode c_Mode_add 110 = .ok (.iadd, 1) := by decide +kernel
theorem d_Mode_add_111 : decode c_Mode_add 111 = .ok (.putfield 21, 3) := by decide +kernel
theorem d_Mode_add_114 : decode c_Mode_add 114 = .ok (.iinc 4 1, 3) := by decide +kernel
theorem d_Mode_add_117 : decode c_Mode_add 117 = .ok (.goto (-73), 3) := by decide +kernel
theorem d_Mode_add_120 : decode c_Mode_add 120 = .ok (.return_, 1) := by decide +kernel
def p_Mode_init  (post : Int32 → Int32 → Int32 → (Nat → Int32) → (Nat → Int32) → (Nat → Int32) → Prop) : Prop := (post 0 0 0 (fun _ => 0) (fun _ => 0) (fun _ => 0))
set_option maxHeartbeats 4000000 in
set_option maxRecDepth 100000 in
theorem k_Mode_init (l : Launch) (G : va_G) (K : Nat → ClassId) (a0 : Nat) (sz : Nat)  (post : Int32 → Int32 → Int32 → (Nat → Int32) → (Nat → Int32) → (Nat → Int32) → Prop) (h : p_Mode_init  post) : MWv l y_Mode_init (.code y_Mode_init c_Mode_init 1 none) { frames := 1, cells := 3, slots := 27, locals := 20 } G K [(a0, .inr (6, [.null, .null, .null, .int 0, .int 0, .int 0]))] [] [.ref a0] sz (fun (u : Int32 × Int32 × Int32 × (Nat → Int32) × (Nat → Int32) × (Nat → Int32) × Nat × Nat × Nat) => post u.1 u.2.1 u.2.2.1 u.2.2.2.1 u.2.2.2.2.1 u.2.2.2.2.2.1) (fun u => [(a0, .inr (6, [.ref u.2.2.2.2.2.2.1, .ref u.2.2.2.2.2.2.2.1, .ref u.2.2.2.2.2.2.2.2, .int u.1, .int u.2.1, .int u.2.2.1])), (u.2.2.2.2.2.2.1, .inl (K 0, 9, .inl u.2.2.2.1)), (u.2.2.2.2.2.2.2.1, .inl (K 0, 9, .inl u.2.2.2.2.1)), (u.2.2.2.2.2.2.2.2, .inl (K 0, 9, .inl u.2.2.2.2.2.1))]) 3 27 := by
  refine g_metWv (cc := c_Mode_init) (maxL := 1) (ret := none) (by decide) rfl rfl (Nat.le_of_ble_eq_true rfl) ?_
  intro p e s m below meth c A Q hx hb hml hown hname htg hK hN hP hD hA hS hR rN hret ls hl
  have hl : lv_has ls 1 [(0, .ref a0)] := hl
  refine lv_aload_n hx hb d_Mode_init_0 rfl (lv_at hl 0 rfl) ?_
  refine W.objInit hx hb hown (htg _ m_86) (htg _ m_23) (htg _ m_24) rfl (by rw [hml]; exact hl.1) rfl d_Mode_init_1 (Nat.le_of_ble_eq_true rfl) (Nat.le_of_ble_eq_true rfl) ?_
  refine W.eq (g2 := F0 m 4 ls []) rfl ?_
  refine lv_aload_n hx hb d_Mode_init_4 rfl (lv_at hl 0 rfl) ?_
  refine lv_bipush (v := 9) hx hb d_Mode_init_5 (by decide) ?_
  refine g_newi (N := 9) hx hb (htg _ m_39) hK hP hD hS hA (by decide) (by decide) (by decide) (Nat.le_of_ble_eq_true rfl) (Nat.le_of_ble_eq_true rfl) d_Mode_init_7 (fun q1 H hP hD hS => ?_)
  have hP : va_P G vwCl [(a0, .inr (6, [.null, .null, .null, .int 0, .int 0, .int 0])), (q1, .inl (K 0, 9, .inl (fun _ => 0)))] H := hP
  have hD : va_D A [(a0, .inr (6, [.null, .null, .null, .int 0, .int 0, .int 0])), (q1, .inl (K 0, 9, .inl (fun _ => 0)))] := hD
  refine va_putF (ci := 6) (v := .ref q1) (ty := (.array .int)) hx hb htg in_Mode t_Mode tok_Mode nm_Mode hown hK hP hD hS 0 rfl rfl 0 (by decide) (htg _ m_87) (fun _ h9 => h9) rfl hname rfl (by decide +kernel) rfl rfl (Nat.le_of_ble_eq_true rfl) d_Mode_init_9 (fun H locs hP hD hS => ?_)
  have hP : va_P G vwCl [(a0, .inr (6, [.ref q1, .null, .null, .int 0, .int 0, .int 0])), (q1, .inl (K 0, 9, .inl (fun _ => 0)))] H := hP
  have hD : va_D A [(a0, .inr (6, [.ref q1, .null, .null, .int 0, .int 0, .int 0])), (q1, .inl (K 0, 9, .inl (fun _ => 0)))] := hD
  refine lv_aload_n hx hb d_Mode_init_12 rfl (lv_at hl 0 rfl) ?_
  refine lv_bipush (v := 9) hx hb d_Mode_init_13 (by decide) ?_
  refine g_newi (N := 9) hx hb (htg _ m_39) hK hP hD hS hA (by decide) (by decide) (by decide) (Nat.le_of_ble_eq_true rfl) (Nat.le_of_ble_eq_true rfl) d_Mode_init_15 (fun q2 H hP hD hS => ?_)
  have hP : va_P G vwCl [(a0, .inr (6, [.ref q1, .null, .null, .int 0, .int 0, .int 0])), (q1, .inl (K 0, 9, .inl (fun _ => 0))), (q2, .inl (K 0, 9, .inl (fun _ => 0)))] H := hP
  have hD : va_D A [(a0, .inr (6, [.ref q1, .null, .null, .int 0, .int 0, .int 0])), (q1, .inl (K 0, 9, .inl (fun _ => 0))), (q2, .inl (K 0, 9, .inl (fun _ => 0)))] := hD
  refine va_putF (ci := 6) (v := .ref q2) (ty := (.array .int)) hx hb htg in_Mode t_Mode tok_Mode nm_Mode hown hK hP hD hS 0 rfl rfl 1 (by decide) (htg _ m_88) (fun _ h9 => h9) rfl hname rfl (by decide +kernel) rfl rfl (Nat.le_of_ble_eq_true rfl) d_Mode_init_17 (fun H locs hP hD hS => ?_)
  have hP : va_P G vwCl [(a0, .inr (6, [.ref q1, .ref q2, .null, .int 0, .int 0, .int 0])), (q1, .inl (K 0, 9, .inl (fun _ => 0))), (q2, .inl (K 0, 9, .inl (fun _ => 0)))] H := hP
  have hD : va_D A [(a0, .inr (6, [.ref q1, .ref q2, .null, .int 0, .int 0, .int 0])), (q1, .inl (K 0, 9, .inl (fun _ => 0))), (q2, .inl (K 0, 9, .inl (fun _ => 0)))] := hD
  refine lv_aload_n hx hb d_Mode_init_20 rfl (lv_at hl 0 rfl) ?_
  refine lv_bipush (v := 9) hx hb d_Mode_init_21 (by decide) ?_
  refine g_newi (N := 9) hx hb (htg _ m_39) hK hP hD hS hA (by decide) (by decide) (by decide) (Nat.le_of_ble_eq_true rfl) (Nat.le_of_ble_eq_true rfl) d_Mode_init_23 (fun q3 H hP hD hS => ?_)
  have hP : va_P G vwCl [(a0, .inr (6, [.ref q1, .ref q2, .null, .int 0, .int 0, .int 0])), (q1, .inl (K 0, 9, .inl (fun _ => 0))), (q2, .inl (K 0, 9, .inl (fun _ => 0))), (q3, .inl (K 0, 9, .inl (fun _ => 0)))] H := hP
  have hD : va_D A [(a0, .inr (6, [.ref q1, .ref q2, .null, .int 0, .int 0, .int 0])), (q1, .inl (K 0, 9, .inl (fun _ => 0))), (q2, .inl (K 0, 9, .inl (fun _ => 0))), (q3, .inl (K 0, 9, .inl (fun _ => 0)))] := hD
  refine va_putF (ci := 6) (v := .ref q3) (ty := (.array .int)) hx hb htg in_Mode t_Mode tok_Mode nm_Mode hown hK hP hD hS 0 rfl rfl 2 (by decide) (htg _ m_89) (fun _ h9 => h9) rfl hname rfl (by decide +kernel) rfl rfl (Nat.le_of_ble_eq_true rfl) d_Mode_init_25 (fun H locs hP hD hS => ?_)
  have hP : va_P G vwCl [(a0, .inr (6, [.ref q1, .ref q2, .ref q3, .int 0, .int 0, .int 0])), (q1, .inl (K 0, 9, .inl (fun _ => 0))), (q2, .inl (K 0, 9, .inl (fun _ => 0))), (q3, .inl (K 0, 9, .inl (fun _ => 0)))] H := hP
  have hD : va_D A [(a0, .inr (6, [.ref q1, .ref q2, .ref q3, .int 0, .int 0, .int 0])), (q1, .inl (K 0, 9, .inl (fun _ => 0))), (q2, .inl (K 0, 9, .inl (fun _ => 0))), (q3, .inl (K 0, 9, .inl (fun _ => 0)))] := hD
  refine lv_aload_n hx hb d_Mode_init_28 rfl (lv_at hl 0 rfl) ?_
  refine lv_iconst (v := 0) hx hb d_Mode_init_29 (by decide) ?_
  refine va_put (ci := 6) (v := .int 0) (ty := .int) hx hb htg in_Mode t_Mode tok_Mode nm_Mode hown hK hP hD hS 0 rfl rfl 3 (by decide) (htg _ m_90) (fun _ h9 => h9) rfl (by decide +kernel) rfl rfl (Nat.le_of_ble_eq_true rfl) d_Mode_init_30 (fun H locs hP hD hS => ?_)
  have hP : va_P G vwCl [(a0, .inr (6, [.ref q1, .ref q2, .ref q3, .int 0, .int 0, .int 0])), (q1, .inl (K 0, 9, .inl (fun _ => 0))), (q2, .inl (K 0, 9, .inl (fun _ => 0))), (q3, .inl (K 0, 9, .inl (fun _ => 0)))] H := hP
  have hD : va_D A [(a0, .inr (6, [.ref q1, .ref q2, .ref q3, .int 0, .int 0, .int 0])), (q1, .inl (K 0, 9, .inl (fun _ => 0))), (q2, .inl (K 0, 9, .inl (fun _ => 0))), (q3, .inl (K 0, 9, .inl (fun _ => 0)))] := hD
  refine lv_aload_n hx hb d_Mode_init_33 rfl (lv_at hl 0 rfl) ?_
  refine lv_iconst (v := 0) hx hb d_Mode_init_34 (by decide) ?_
  refine va_put (ci := 6) (v := .int 0) (ty := .int) hx hb htg in_Mode t_Mode tok_Mode nm_Mode hown hK hP hD hS 0 rfl rfl 4 (by decide) (htg _ m_91) (fun _ h9 => h9) rfl (by decide +kernel) rfl rfl (Nat.le_of_ble_eq_true rfl) d_Mode_init_35 (fun H locs hP hD hS => ?_)
  have hP : va_P G vwCl [(a0, .inr (6, [.ref q1, .ref q2, .ref q3, .int 0, .int 0, .int 0])), (q1, .inl (K 0, 9, .inl (fun _ => 0))), (q2, .inl (K 0, 9, .inl (fun _ => 0))), (q3, .inl (K 0, 9, .inl (fun _ => 0)))] H := hP
  have hD : va_D A [(a0, .inr (6, [.ref q1, .ref q2, .ref q3, .int 0, .int 0, .int 0])), (q1, .inl (K 0, 9, .inl (fun _ => 0))), (q2, .inl (K 0, 9, .inl (fun _ => 0))), (q3, .inl (K 0, 9, .inl (fun _ => 0)))] := hD
  refine lv_aload_n hx hb d_Mode_init_38 rfl (lv_at hl 0 rfl) ?_
  refine lv_iconst (v := 0) hx hb d_Mode_init_39 (by decide) ?_
  refine va_put (ci := 6) (v := .int 0) (ty := .int) hx hb htg in_Mode t_Mode tok_Mode nm_Mode hown hK hP hD hS 0 rfl rfl 5 (by decide) (htg _ m_92) (fun _ h9 => h9) rfl (by decide +kernel) rfl rfl (Nat.le_of_ble_eq_true rfl) d_Mode_init_40 (fun H locs hP hD hS => ?_)
  have hP : va_P G vwCl [(a0, .inr (6, [.ref q1, .ref q2, .ref q3, .int 0, .int 0, .int 0])), (q1, .inl (K 0, 9, .inl (fun _ => 0))), (q2, .inl (K 0, 9, .inl (fun _ => 0))), (q3, .inl (K 0, 9, .inl (fun _ => 0)))] H := hP
  have hD : va_D A [(a0, .inr (6, [.ref q1, .ref q2, .ref q3, .int 0, .int 0, .int 0])), (q1, .inl (K 0, 9, .inl (fun _ => 0))), (q2, .inl (K 0, 9, .inl (fun _ => 0))), (q3, .inl (K 0, 9, .inl (fun _ => 0)))] := hD
  exact hret (0, 0, 0, (fun _ => 0), (fun _ => 0), (fun _ => 0), q1, q2, q3) _ _ _ _ h (hP.sub [0, 1, 2, 3] rfl) (hD.sub [0, 1, 2, 3] (by decide) rfl) hS d_Mode_init_43
def p_Mode_placesOf_4 (v_o_places : Int32) (f_o_letters : (Nat → Int32)) (x1 : Int32) (post : Int32 → Prop) : Nat → Int32 → Int32 → Prop
  | 0, _, _ => False
  | n + 1, l2, l3 => ((v_o_places ≤ l3 → (post l2)) ∧ (¬ v_o_places ≤ l3 → (vp_in l3 9 ∧ (p_TB_holds (f_o_letters l3.toNatClampNeg) x1 (fun r1401 => ((r1401 = 0 → (p_Mode_placesOf_4 v_o_places f_o_letters x1 post n l2 (l3 + 1))) ∧ (¬ r1401 = 0 → (p_Mode_placesOf_4 v_o_places f_o_letters x1 post n (l2 ||| ((1 : Int32) <<< (l3 &&& 31))) (l3 + 1)))))))))
def p_Mode_placesOf (v_o_places : Int32) (f_o_letters : (Nat → Int32)) (x1 : Int32) (post : Int32 → Prop) : Prop := (∃ k, p_Mode_placesOf_4 v_o_places f_o_letters x1 post k 0 0)
set_option maxHeartbeats 4000000 in
set_option maxRecDepth 100000 in
theorem k_Mode_placesOf (l : Launch) (G : va_G) (K : Nat → ClassId) (a0 a0_letters a0_followers a0_rules : Nat) (v_o_places : Int32) (v_o_first : Int32) (v_o_last : Int32) (f_o_letters : (Nat → Int32)) (x1 : Int32) (post : Int32 → Prop) (h : p_Mode_placesOf v_o_places f_o_letters x1 post) : MSi l y_Mode_placesOf (.code y_Mode_placesOf c_Mode_placesOf 4 (some .int)) { frames := 1, cells := 0, slots := 0, locals := 21 } G K [(a0, .inr (6, [.ref a0_letters, .ref a0_followers, .ref a0_rules, .int v_o_places, .int v_o_first, .int v_o_last])), (a0_letters, .inl (K 0, 9, .inl f_o_letters))] [.ref a0, .int x1] post := by
  refine g_metSi (cc := c_Mode_placesOf) (maxL := 4) (ret := some .int) (rt := .int) (by decide) rfl rfl (Nat.le_of_ble_eq_true rfl) ?_
  intro p e s m below meth c Q hx hb hml hown htg hK hN hP hret ls hl
  have hl : lv_has ls 4 [(0, .ref a0), (1, .int x1)] := hl
  have C_4 : ∀ (n : Nat) (l2 : Int32) (l3 : Int32) (ls : Array Slot), lv_has ls 4 [(0, .ref a0), (1, .int x1), (2, .int l2), (3, .int l3)] → p_Mode_placesOf_4 v_o_places f_o_letters x1 post n l2 l3 → W p l e { frames := 1, cells := 0, slots := 0, locals := 21 } s m ([.ref a0, .int x1] : List Value).toArray below meth c s.heap [] 0 0 Q (F0 m 4 ls []) := by
    intro n
    induction n with
    | zero =>
      intro l2 l3 ls hl h
      exact False.elim h
    | succ n ih =>
      intro l2 l3 ls hl h
      refine lv_iload_n hx hb d_Mode_placesOf_4 rfl (lv_at hl 3 rfl) ?_
      refine lv_aload_n hx hb d_Mode_placesOf_5 rfl (lv_at hl 0 rfl) ?_
      refine va_get (ci := 6) (v := .int v_o_places) hx hb htg in_Mode hown hK hP 0 rfl rfl 3 (by decide) (htg _ m_90) (fun _ h9 => h9) rfl d_Mode_placesOf_6 ?_
      refine lv_icmp_ge (tgt := 37) hx hb d_Mode_placesOf_9 (by decide) (fun hc => ?_) (fun hc => ?_)
      · replace h := h.1 hc
        refine lv_iload_n hx hb d_Mode_placesOf_37 rfl (lv_at hl 2 rfl) ?_
        exact hret _ _ _ h (vp_nar_int _) d_Mode_placesOf_38
      · replace h := h.2 hc
        refine lv_aload_n hx hb d_Mode_placesOf_12 rfl (lv_at hl 0 rfl) ?_
        refine va_get (ci := 6) (v := .ref a0_letters) hx hb htg in_Mode hown hK hP 0 rfl rfl 0 (by decide) (htg _ m_87) (fun _ h9 => h9) rfl d_Mode_placesOf_13 ?_
        refine lv_iload_n hx hb d_Mode_placesOf_16 rfl (lv_at hl 3 rfl) ?_
        obtain ⟨hin, h⟩ := h
        refine va_iald hx hb hK hP 1 0 rfl rfl hin d_Mode_placesOf_17 ?_
        refine lv_iload_n hx hb d_Mode_placesOf_18 rfl (lv_at hl 1 rfl) ?_
        have hPc : va_P G vwCl [] _ := hP.sub [] rfl
        refine vp_callSi (va_Run.run (va_runSN (As := [.int (f_o_letters l3.toNatClampNeg), .int x1]) (rest := []) ⟨hx, hb, hml, hown, htg⟩ (k_TB_holds l G K  (f_o_letters l3.toNatClampNeg) x1 _ h) ⟨(va_cnB 2 htg (gGood m_105) rfl rfl rfl (hN.1 (.methodLinkNest "TokenBench$Mode" 49 y_TB_holds "TokenBench") (by decide +kernel)) (htg _ m_1) (by decide +kernel) ⟨(Nat.le_of_ble_eq_true rfl), (Nat.le_of_ble_eq_true rfl)⟩), htg _ m_104, trivial⟩ (gS_pre hK hN hPc) rfl rfl hl.1 rfl (lv_room (Nat.le_of_ble_eq_true rfl)) d_Mode_placesOf_19 ⟨(Nat.le_of_ble_eq_true rfl), (Nat.le_of_ble_eq_true rfl)⟩)) (fun r1401 h => ?_)
        refine lv_if_eq (tgt := 31) hx hb d_Mode_placesOf_22 (by decide) (fun hc => ?_) (fun hc => ?_)
        · replace h := h.1 hc
          refine lv_iinc (v := (l3 + 1)) (lv' := [(3, .int (l3 + 1)), (0, .ref a0), (1, .int x1), (2, .int l2)]) hx hb d_Mode_placesOf_31 hl (k := 3) rfl (by first | rfl | decide) (by decide) rfl (fun ls hl => ?_)
          refine lv_goto (tgt := 4) hx hb d_Mode_placesOf_34 (by decide) ?_
          exact ih l2 (l3 + 1) _ (lv_sub hl [1, 2, 3, 0] rfl) h
        · replace h := h.2 hc
          refine lv_iload_n hx hb d_Mode_placesOf_25 rfl (lv_at hl 2 rfl) ?_
          refine lv_iconst (v := 1) hx hb d_Mode_placesOf_26 (by decide) ?_
          refine lv_iload_n hx hb d_Mode_placesOf_27 rfl (lv_at hl 3 rfl) ?_
          refine lv_ishl hx hb d_Mode_placesOf_28 ?_
          refine lv_ior hx hb d_Mode_placesOf_29 ?_
          refine lv_istore_n (lv' := [(2, .int (l2 ||| ((1 : Int32) <<< (l3 &&& 31)))), (0, .ref a0), (1, .int x1), (3, .int l3)]) hx hb d_Mode_placesOf_30 rfl hl (by decide) rfl (fun ls hl => ?_)
          refine lv_iinc (v := (l3 + 1)) (lv' := [(3, .int (l3 + 1)), (2, .int (l2 ||| ((1 : Int32) <<< (l3 &&& 31)))), (0, .ref a0), (1, .int x1)]) hx hb d_Mode_placesOf_31 hl (k := 3) rfl (by first | rfl | decide) (by decide) rfl (fun ls hl => ?_)
          refine lv_goto (tgt := 4) hx hb d_Mode_placesOf_34 (by decide) ?_
          exact ih (l2 ||| ((1 : Int32) <<< (l3 &&& 31))) (l3 + 1) _ (lv_sub hl [2, 3, 1, 0] rfl) h
  refine lv_iconst (v := 0) hx hb d_Mode_placesOf_0 (by decide) ?_
  refine lv_istore_n (lv' := [(2, .int 0), (0, .ref a0), (1, .int x1)]) hx hb d_Mode_placesOf_1 rfl hl (by decide) rfl (fun ls hl => ?_)
  refine lv_iconst (v := 0) hx hb d_Mode_placesOf_2 (by decide) ?_
  refine lv_istore_n (lv' := [(3, .int 0), (2, .int 0), (0, .ref a0), (1, .int x1)]) hx hb d_Mode_placesOf_3 rfl hl (by decide) rfl (fun ls hl => ?_)
  obtain ⟨k, h⟩ := h
  exact C_4 k 0 0 _ (lv_sub hl [2, 3, 1, 0] rfl) h
def p_Mode_placesBehind_13 (v_o_places : Int32) (f_o_followers : (Nat → Int32)) (x1 : Int32) (post : Int32 → Prop) : Nat → Int32 → Int32 → Prop
  | 0, _, _ => False
  | n + 1, l2, l3 => ((v_o_places ≤ l3 → (post l2)) ∧ (¬ v_o_places ≤ l3 → (p_TB_holds x1 l3 (fun r2301 => ((r2301 = 0 → (p_Mode_placesBehind_13 v_o_places f_o_followers x1 post n l2 (l3 + 1))) ∧ (¬ r2301 = 0 → (vp_in l3 9 ∧ (p_Mode_placesBehind_13 v_o_places f_o_followers x1 post n (l2 ||| (f_o_followers l3.toNatClampNeg)) (l3 + 1)))))))))
def p_Mode_placesBehind (v_o_places : Int32) (v_o_first : Int32) (f_o_followers : (Nat → Int32)) (x1 : Int32) (post : Int32 → Prop) : Prop := ((¬ x1 = 0 → (∃ k, p_Mode_placesBehind_13 v_o_places f_o_followers x1 post k 0 0)) ∧ (x1 = 0 → (post v_o_first)))
set_option maxHeartbeats 4000000 in
set_option maxRecDepth 100000 in
theorem k_Mode_placesBehind (l : Launch) (G : va_G) (K : Nat → ClassId) (a0 a0_followers a0_letters a0_rules : Nat) (v_o_places : Int32) (v_o_first : Int32) (v_o_last : Int32) (f_o_followers : (Nat → Int32)) (x1 : Int32) (post : Int32 → Prop) (h : p_Mode_placesBehind v_o_places v_o_first f_o_followers x1 post) : MSi l y_Mode_placesBehind (.code y_Mode_placesBehind c_Mode_placesBehind 4 (some .int)) { frames := 1, cells := 0, slots := 0, locals := 21 } G K [(a0, .inr (6, [.ref a0_letters, .ref a0_followers, .ref a0_rules, .int v_o_places, .int v_o_first, .int v_o_last])), (a0_followers, .inl (K 0, 9, .inl f_o_followers))] [.ref a0, .int x1] post := by
  refine g_metSi (cc := c_Mode_placesBehind) (maxL := 4) (ret := some .int) (rt := .int) (by decide) rfl rfl (Nat.le_of_ble_eq_true rfl) ?_
  intro p e s m below meth c Q hx hb hml hown htg hK hN hP hret ls hl
  have hl : lv_has ls 4 [(0, .ref a0), (1, .int x1)] := hl
  have C_13 : ∀ (n : Nat) (l2 : Int32) (l3 : Int32) (ls : Array Slot), lv_has ls 4 [(0, .ref a0), (1, .int x1), (2, .int l2), (3, .int l3)] → p_Mode_placesBehind_13 v_o_places f_o_followers x1 post n l2 l3 → W p l e { frames := 1, cells := 0, slots := 0, locals := 21 } s m ([.ref a0, .int x1] : List Value).toArray below meth c s.heap [] 0 0 Q (F0 m 13 ls []) := by
    intro n
    induction n with
    | zero =>
      intro l2 l3 ls hl h
      exact False.elim h
    | succ n ih =>
      intro l2 l3 ls hl h
      refine lv_iload_n hx hb d_Mode_placesBehind_13 rfl (lv_at hl 3 rfl) ?_
      refine lv_aload_n hx hb d_Mode_placesBehind_14 rfl (lv_at hl 0 rfl) ?_
      refine va_get (ci := 6) (v := .int v_o_places) hx hb htg in_Mode hown hK hP 0 rfl rfl 3 (by decide) (htg _ m_90) (fun _ h9 => h9) rfl d_Mode_placesBehind_15 ?_
      refine lv_icmp_ge (tgt := 44) hx hb d_Mode_placesBehind_18 (by decide) (fun hc => ?_) (fun hc => ?_)
      · replace h := h.1 hc
        refine lv_iload_n hx hb d_Mode_placesBehind_44 rfl (lv_at hl 2 rfl) ?_
        exact hret _ _ _ h (vp_nar_int _) d_Mode_placesBehind_45
      · replace h := h.2 hc
        refine lv_iload_n hx hb d_Mode_placesBehind_21 rfl (lv_at hl 1 rfl) ?_
        refine lv_iload_n hx hb d_Mode_placesBehind_22 rfl (lv_at hl 3 rfl) ?_
        have hPc : va_P G vwCl [] _ := hP.sub [] rfl
        refine vp_callSi (va_Run.run (va_runSN (As := [.int x1, .int l3]) (rest := []) ⟨hx, hb, hml, hown, htg⟩ (k_TB_holds l G K  x1 l3 _ h) ⟨(va_cnB 2 htg (gGood m_105) rfl rfl rfl (hN.1 (.methodLinkNest "TokenBench$Mode" 49 y_TB_holds "TokenBench") (by decide +kernel)) (htg _ m_1) (by decide +kernel) ⟨(Nat.le_of_ble_eq_true rfl), (Nat.le_of_ble_eq_true rfl)⟩), htg _ m_104, trivial⟩ (gS_pre hK hN hPc) rfl rfl hl.1 rfl (lv_room (Nat.le_of_ble_eq_true rfl)) d_Mode_placesBehind_23 ⟨(Nat.le_of_ble_eq_true rfl), (Nat.le_of_ble_eq_true rfl)⟩)) (fun r2301 h => ?_)
        refine lv_if_eq (tgt := 38) hx hb d_Mode_placesBehind_26 (by decide) (fun hc => ?_) (fun hc => ?_)
        · replace h := h.1 hc
          refine lv_iinc (v := (l3 + 1)) (lv' := [(3, .int (l3 + 1)), (0, .ref a0), (1, .int x1), (2, .int l2)]) hx hb d_Mode_placesBehind_38 hl (k := 3) rfl (by first | rfl | decide) (by decide) rfl (fun ls hl => ?_)
          refine lv_goto (tgt := 13) hx hb d_Mode_placesBehind_41 (by decide) ?_
          exact ih l2 (l3 + 1) _ (lv_sub hl [1, 2, 3, 0] rfl) h
        · replace h := h.2 hc
          refine lv_iload_n hx hb d_Mode_placesBehind_29 rfl (lv_at hl 2 rfl) ?_
          refine lv_aload_n hx hb d_Mode_placesBehind_30 rfl (lv_at hl 0 rfl) ?_
          refine va_get (ci := 6) (v := .ref a0_followers) hx hb htg in_Mode hown hK hP 0 rfl rfl 1 (by decide) (htg _ m_88) (fun _ h9 => h9) rfl d_Mode_placesBehind_31 ?_
          refine lv_iload_n hx hb d_Mode_placesBehind_34 rfl (lv_at hl 3 rfl) ?_
          obtain ⟨hin, h⟩ := h
          refine va_iald hx hb hK hP 1 0 rfl rfl hin d_Mode_placesBehind_35 ?_
          refine lv_ior hx hb d_Mode_placesBehind_36 ?_
          refine lv_istore_n (lv' := [(2, .int (l2 ||| (f_o_followers l3.toNatClampNeg))), (0, .ref a0), (1, .int x1), (3, .int l3)]) hx hb d_Mode_placesBehind_37 rfl hl (by decide) rfl (fun ls hl => ?_)
          refine lv_iinc (v := (l3 + 1)) (lv' := [(3, .int (l3 + 1)), (2, .int (l2 ||| (f_o_followers l3.toNatClampNeg))), (0, .ref a0), (1, .int x1)]) hx hb d_Mode_placesBehind_38 hl (k := 3) rfl (by first | rfl | decide) (by decide) rfl (fun ls hl => ?_)
          refine lv_goto (tgt := 13) hx hb d_Mode_placesBehind_41 (by decide) ?_
          exact ih (l2 ||| (f_o_followers l3.toNatClampNeg)) (l3 + 1) _ (lv_sub hl [2, 3, 1, 0] rfl) h
  refine lv_iload_n hx hb d_Mode_placesBehind_0 rfl (lv_at hl 1 rfl) ?_
  refine lv_if_ne (tgt := 9) hx hb d_Mode_placesBehind_1 (by decide) (fun hc => ?_) (fun hc => ?_)
  · replace h := h.1 hc
    refine lv_iconst (v := 0) hx hb d_Mode_placesBehind_9 (by decide) ?_
    refine lv_istore_n (lv' := [(2, .int 0), (0, .ref a0), (1, .int x1)]) hx hb d_Mode_placesBehind_10 rfl hl (by decide) rfl (fun ls hl => ?_)
    refine lv_iconst (v := 0) hx hb d_Mode_placesBehind_11 (by decide) ?_
    refine lv_istore_n (lv' := [(3, .int 0), (2, .int 0), (0, .ref a0), (1, .int x1)]) hx hb d_Mode_placesBehind_12 rfl hl (by decide) rfl (fun ls hl => ?_)
    obtain ⟨k, h⟩ := h
    exact C_13 k 0 0 _ (lv_sub hl [2, 3, 1, 0] rfl) h
  · replace h := h.2 hc
    refine lv_aload_n hx hb d_Mode_placesBehind_4 rfl (lv_at hl 0 rfl) ?_
    refine va_get (ci := 6) (v := .int v_o_first) hx hb htg in_Mode hown hK hP 0 rfl rfl 4 (by decide) (htg _ m_91) (fun _ h9 => h9) rfl d_Mode_placesBehind_5 ?_
    exact hret _ _ _ h (vp_nar_int _) d_Mode_placesBehind_8
def p_Mode_winnerOf_23 (f_o_rules : (Nat → Int32)) (post : Int32 → Prop) (l2 : Int32) : Prop := (vp_in l2 9 ∧ (post (f_o_rules l2.toNatClampNeg)))
def p_Mode_winnerOf_2 (v_o_places : Int32) (v_o_last : Int32) (f_o_rules : (Nat → Int32)) (x1 : Int32) (post : Int32 → Prop) : Nat → Int32 → Prop
  | 0, _ => False
  | n + 1, l2 => ((v_o_places ≤ l2 → (post (-1))) ∧ (¬ v_o_places ≤ l2 → (p_TB_holds (x1 &&& v_o_last) l2 (fun r1201 => ((r1201 = 0 → (p_Mode_winnerOf_2 v_o_places v_o_last f_o_rules x1 post n (l2 + 1))) ∧ (¬ r1201 = 0 → (p_Mode_winnerOf_23 f_o_rules post l2)))))))
def p_Mode_winnerOf (v_o_places : Int32) (v_o_last : Int32) (f_o_rules : (Nat → Int32)) (x1 : Int32) (post : Int32 → Prop) : Prop := (∃ k, p_Mode_winnerOf_2 v_o_places v_o_last f_o_rules x1 post k 0)
set_option maxHeartbeats 4000000 in
set_option maxRecDepth 100000 in
theorem k_Mode_winnerOf (l : Launch) (G : va_G) (K : Nat → ClassId) (a0 a0_rules a0_letters a0_followers : Nat) (v_o_places : Int32) (v_o_first : Int32) (v_o_last : Int32) (f_o_rules : (Nat → Int32)) (x1 : Int32) (post : Int32 → Prop) (h : p_Mode_winnerOf v_o_places v_o_last f_o_rules x1 post) : MSi l y_Mode_winnerOf (.code y_Mode_winnerOf c_Mode_winnerOf 3 (some .int)) { frames := 1, cells := 0, slots := 0, locals := 21 } G K [(a0, .inr (6, [.ref a0_letters, .ref a0_followers, .ref a0_rules, .int v_o_places, .int v_o_first, .int v_o_last])), (a0_rules, .inl (K 0, 9, .inl f_o_rules))] [.ref a0, .int x1] post := by
  refine g_metSi (cc := c_Mode_winnerOf) (maxL := 3) (ret := some .int) (rt := .int) (by decide) rfl rfl (Nat.le_of_ble_eq_true rfl) ?_
  intro p e s m below meth c Q hx hb hml hown htg hK hN hP hret ls hl
  have hl : lv_has ls 3 [(0, .ref a0), (1, .int x1)] := hl
  have C_23 : ∀ (l2 : Int32) (ls : Array Slot), lv_has ls 3 [(0, .ref a0), (2, .int l2)] → p_Mode_winnerOf_23 f_o_rules post l2 → W p l e { frames := 1, cells := 0, slots := 0, locals := 21 } s m ([.ref a0, .int x1] : List Value).toArray below meth c s.heap [] 0 0 Q (F0 m 23 ls []) := by
    intro  l2 ls hl h
    refine lv_aload_n hx hb d_Mode_winnerOf_23 rfl (lv_at hl 0 rfl) ?_
    refine va_get (ci := 6) (v := .ref a0_rules) hx hb htg in_Mode hown hK hP 0 rfl rfl 2 (by decide) (htg _ m_89) (fun _ h9 => h9) rfl d_Mode_winnerOf_24 ?_
    refine lv_iload_n hx hb d_Mode_winnerOf_27 rfl (lv_at hl 1 rfl) ?_
    obtain ⟨hin, h⟩ := h
    refine va_iald hx hb hK hP 1 0 rfl rfl hin d_Mode_winnerOf_28 ?_
    exact hret _ _ _ h (vp_nar_int _) d_Mode_winnerOf_29
  have C_2 : ∀ (n : Nat) (l2 : Int32) (ls : Array Slot), lv_has ls 3 [(0, .ref a0), (1, .int x1), (2, .int l2)] → p_Mode_winnerOf_2 v_o_places v_o_last f_o_rules x1 post n l2 → W p l e { frames := 1, cells := 0, slots := 0, locals := 21 } s m ([.ref a0, .int x1] : List Value).toArray below meth c s.heap [] 0 0 Q (F0 m 2 ls []) := by
    intro n
    induction n with
    | zero =>
      intro l2 ls hl h
      exact False.elim h
    | succ n ih =>
      intro l2 ls hl h
      refine lv_iload_n hx hb d_Mode_winnerOf_2 rfl (lv_at hl 2 rfl) ?_
      refine lv_aload_n hx hb d_Mode_winnerOf_3 rfl (lv_at hl 0 rfl) ?_
      refine va_get (ci := 6) (v := .int v_o_places) hx hb htg in_Mode hown hK hP 0 rfl rfl 3 (by decide) (htg _ m_90) (fun _ h9 => h9) rfl d_Mode_winnerOf_4 ?_
      refine lv_icmp_ge (tgt := 36) hx hb d_Mode_winnerOf_7 (by decide) (fun hc => ?_) (fun hc => ?_)
      · replace h := h.1 hc
        refine lv_iconst (v := (-1)) hx hb d_Mode_winnerOf_36 (by decide) ?_
        exact hret _ _ _ h (vp_nar_int _) d_Mode_winnerOf_37
      · replace h := h.2 hc
        refine lv_iload_n hx hb d_Mode_winnerOf_10 rfl (lv_at hl 1 rfl) ?_
        refine lv_aload_n hx hb d_Mode_winnerOf_11 rfl (lv_at hl 0 rfl) ?_
        refine va_get (ci := 6) (v := .int v_o_last) hx hb htg in_Mode hown hK hP 0 rfl rfl 5 (by decide) (htg _ m_92) (fun _ h9 => h9) rfl d_Mode_winnerOf_12 ?_
        refine lv_iand hx hb d_Mode_winnerOf_15 ?_
        refine lv_iload_n hx hb d_Mode_winnerOf_16 rfl (lv_at hl 2 rfl) ?_
        have hPc : va_P G vwCl [] _ := hP.sub [] rfl
        refine vp_callSi (va_Run.run (va_runSN (As := [.int (x1 &&& v_o_last), .int l2]) (rest := []) ⟨hx, hb, hml, hown, htg⟩ (k_TB_holds l G K  (x1 &&& v_o_last) l2 _ h) ⟨(va_cnB 2 htg (gGood m_105) rfl rfl rfl (hN.1 (.methodLinkNest "TokenBench$Mode" 49 y_TB_holds "TokenBench") (by decide +kernel)) (htg _ m_1) (by decide +kernel) ⟨(Nat.le_of_ble_eq_true rfl), (Nat.le_of_ble_eq_true rfl)⟩), htg _ m_104, trivial⟩ (gS_pre hK hN hPc) rfl rfl hl.1 rfl (lv_room (Nat.le_of_ble_eq_true rfl)) d_Mode_winnerOf_17 ⟨(Nat.le_of_ble_eq_true rfl), (Nat.le_of_ble_eq_true rfl)⟩)) (fun r1201 h => ?_)
        refine lv_if_eq (tgt := 30) hx hb d_Mode_winnerOf_20 (by decide) (fun hc => ?_) (fun hc => ?_)
        · replace h := h.1 hc
          refine lv_iinc (v := (l2 + 1)) (lv' := [(2, .int (l2 + 1)), (0, .ref a0), (1, .int x1)]) hx hb d_Mode_winnerOf_30 hl (k := 2) rfl (by first | rfl | decide) (by decide) rfl (fun ls hl => ?_)
          refine lv_goto (tgt := 2) hx hb d_Mode_winnerOf_33 (by decide) ?_
          exact ih (l2 + 1) _ (lv_sub hl [1, 2, 0] rfl) h
        · replace h := h.2 hc
          exact C_23 l2 _ (lv_sub hl [0, 2] rfl) h
  refine lv_iconst (v := 0) hx hb d_Mode_winnerOf_0 (by decide) ?_
  refine lv_istore_n (lv' := [(2, .int 0), (0, .ref a0), (1, .int x1)]) hx hb d_Mode_winnerOf_1 rfl hl (by decide) rfl (fun ls hl => ?_)
  obtain ⟨k, h⟩ := h
  exact C_2 k 0 _ (lv_sub hl [1, 2, 0] rfl) h
def p_Mode_hasRoomFor (v_o_places : Int32) (v_p1_places : Int32) (post : Int32 → Prop) : Prop := (p_RuleText_places v_p1_places (fun r1 => ((9 < (v_o_places + r1) → (post 0)) ∧ (¬ 9 < (v_o_places + r1) → (post 1)))))
set_option maxHeartbeats 4000000 in
set_option maxRecDepth 100000 in
theorem k_Mode_hasRoomFor (l : Launch) (G : va_G) (K : Nat → ClassId) (a0 a1 a0_letters a0_followers a0_rules a1_set a1_choices a1_sequences a1_parts a1_letters a1_followers : Nat) (v_o_places : Int32) (v_o_first : Int32) (v_o_last : Int32) (w_p1_noWord : Nat) (w_p1_emptyWord : Nat) (v_p1_depth : Int32) (v_p1_places : Int32) (post : Int32 → Prop) (h : p_Mode_hasRoomFor v_o_places v_p1_places post) : MSi l y_Mode_hasRoomFor (.code y_Mode_hasRoomFor c_Mode_hasRoomFor 2 (some .boolean)) { frames := 1, cells := 0, slots := 0, locals := 20 } G K [(a0, .inr (6, [.ref a0_letters, .ref a0_followers, .ref a0_rules, .int v_o_places, .int v_o_first, .int v_o_last])), (a1, .inr (9, [.ref w_p1_noWord, .ref w_p1_emptyWord, .ref a1_set, .ref a1_choices, .ref a1_sequences, .ref a1_parts, .int v_p1_depth, .ref a1_letters, .ref a1_followers, .int v_p1_places]))] [.ref a0, .ref a1] post := by
  refine g_metSi (cc := c_Mode_hasRoomFor) (maxL := 2) (ret := some .boolean) (rt := .boolean) (by decide) rfl rfl (Nat.le_of_ble_eq_true rfl) ?_
  intro p e s m below meth c Q hx hb hml hown htg hK hN hP hret ls hl
  have hl : lv_has ls 2 [(0, .ref a0), (1, .ref a1)] := hl
  refine lv_aload_n hx hb d_Mode_hasRoomFor_0 rfl (lv_at hl 0 rfl) ?_
  refine va_get (ci := 6) (v := .int v_o_places) hx hb htg in_Mode hown hK hP 0 rfl rfl 3 (by decide) (htg _ m_90) (fun _ h9 => h9) rfl d_Mode_hasRoomFor_1 ?_
  refine lv_aload_n hx hb d_Mode_hasRoomFor_4 rfl (lv_at hl 1 rfl) ?_
  have hPc : va_P G vwCl [(a1, .inr (9, [.ref w_p1_noWord, .ref w_p1_emptyWord, .ref a1_set, .ref a1_choices, .ref a1_sequences, .ref a1_parts, .int v_p1_depth, .ref a1_letters, .ref a1_followers, .int v_p1_places]))] _ := hP.sub [1] rfl
  refine vp_callSi (va_Run.run (va_runV (As := []) (rest := [.int v_o_places]) ⟨hx, hb, hml, hown, htg⟩ (k_RuleText_places l G K a1 a1_set a1_choices a1_sequences a1_parts a1_letters a1_followers w_p1_noWord w_p1_emptyWord v_p1_depth v_p1_places _ h) (cwV 0 htg (gGoodV m_306 m_307 m_308 m_2 m_309) rfl rfl rfl (by decide +kernel) ⟨(Nat.le_of_ble_eq_true rfl), (Nat.le_of_ble_eq_true rfl)⟩) (gS_preV (ci := 9) (q0 := 0) hK hN hPc rfl rfl) rfl rfl hl.1 rfl (lv_room (Nat.le_of_ble_eq_true rfl)) d_Mode_hasRoomFor_5 ⟨(Nat.le_of_ble_eq_true rfl), (Nat.le_of_ble_eq_true rfl)⟩)) (fun r1 h => ?_)
  refine lv_iadd hx hb d_Mode_hasRoomFor_8 ?_
  refine lv_bipush (v := 9) hx hb d_Mode_hasRoomFor_9 (by decide) ?_
  refine lv_icmp_gt (tgt := 18) hx hb d_Mode_hasRoomFor_11 (by decide) (fun hc => ?_) (fun hc => ?_)
  · replace h := h.1 hc
    refine lv_iconst (v := 0) hx hb d_Mode_hasRoomFor_18 (by decide) ?_
    exact hret _ _ _ h (by decide +kernel) d_Mode_hasRoomFor_19
  · replace h := h.2 hc
    refine lv_iconst (v := 1) hx hb d_Mode_hasRoomFor_14 (by decide) ?_
    refine lv_goto (tgt := 19) hx hb d_Mode_hasRoomFor_15 (by decide) ?_
    exact hret _ _ _ h (by decide +kernel) d_Mode_hasRoomFor_19
def p_Mode_add_44 (v_p1_places : Int32) (f_p1_letters : (Nat → Int32)) (f_p1_followers : (Nat → Int32)) (x2 : Int32) (post : Int32 → Int32 → Int32 → (Nat → Int32) → (Nat → Int32) → (Nat → Int32) → Prop) : Nat → Int32 → Int32 → Int32 → Int32 → Int32 → (Nat → Int32) → (Nat → Int32) → (Nat → Int32) → Prop
  | 0, _, _, _, _, _, _, _, _ => False
  | n + 1, l3, l4, v_o_places, v_o_first, v_o_last, f_o_letters, f_o_followers, f_o_rules => (p_RuleText_places v_p1_places (fun r5401 => ((r5401 ≤ l4 → (post v_o_places v_o_first v_o_last f_o_letters f_o_followers f_o_rules)) ∧ (¬ r5401 ≤ l4 → ((9 ≤ v_o_places → (post v_o_places v_o_first v_o_last f_o_letters f_o_followers f_o_rules)) ∧ (¬ 9 ≤ v_o_places → (p_RuleText_lettersAt f_p1_letters l4 (fun r5402 => (vp_in v_o_places 9 ∧ (p_RuleText_followersOf f_p1_followers l4 (fun r5403 => (vp_in v_o_places 9 ∧ (vp_in v_o_places 9 ∧ (p_Mode_add_44 v_p1_places f_p1_letters f_p1_followers x2 post n l3 (l4 + 1) (v_o_places + 1) v_o_first v_o_last (upd f_o_letters v_o_places.toNatClampNeg r5402) (upd f_o_followers v_o_places.toNatClampNeg (r5403 <<< (l3 &&& 31))) (upd f_o_rules v_o_places.toNatClampNeg x2)))))))))))))))
def p_Mode_add (v_o_places : Int32) (v_o_first : Int32) (v_o_last : Int32) (v_p1_places : Int32) (f_p1_choices : (Nat → Option Nat)) (f_p1_letters : (Nat → Int32)) (f_o_letters : (Nat → Int32)) (f_p1_followers : (Nat → Int32)) (f_o_followers : (Nat → Int32)) (f_o_rules : (Nat → Int32)) (LP : (List Nat)) (PF : (Nat → Int32 × Int32 × Int32)) (x2 : Int32) (post : Int32 → Int32 → Int32 → (Nat → Int32) → (Nat → Int32) → (Nat → Int32) → Prop) : Prop := (p_RuleText_firstPlaces f_p1_choices LP PF (fun r1 => (p_RuleText_lastPlaces f_p1_choices LP PF (fun r2 => (∃ k, p_Mode_add_44 v_p1_places f_p1_letters f_p1_followers x2 post k v_o_places 0 v_o_places (v_o_first ||| (r1 <<< (v_o_places &&& 31))) (v_o_last ||| (r2 <<< (v_o_places &&& 31))) f_o_letters f_o_followers f_o_rules)))))
set_option maxHeartbeats 4000000 in
set_option maxRecDepth 100000 in
theorem k_Mode_add (l : Launch) (G : va_G) (K : Nat → ClassId) (a0 a1 a1_choices a1_letters a0_letters a1_followers a0_followers a0_rules a1_set a1_sequences a1_parts : Nat) (sz : Nat) (v_o_places : Int32) (v_o_first : Int32) (v_o_last : Int32) (w_p1_noWord : Nat) (w_p1_emptyWord : Nat) (v_p1_depth : Int32) (v_p1_places : Int32) (f_p1_choices : (Nat → Option Nat)) (f_p1_letters : (Nat → Int32)) (f_o_letters : (Nat → Int32)) (f_p1_followers : (Nat → Int32)) (f_o_followers : (Nat → Int32)) (f_o_rules : (Nat → Int32)) (LP : (List Nat)) (PF : (Nat → Int32 × Int32 × Int32)) (x2 : Int32) (post : Int32 → Int32 → Int32 → (Nat → Int32) → (Nat → Int32) → (Nat → Int32) → Prop) (h : p_Mode_add v_o_places v_o_first v_o_last v_p1_places f_p1_choices f_p1_letters f_o_letters f_p1_followers f_o_followers f_o_rules LP PF x2 post) : MWv l y_Mode_add (.code y_Mode_add c_Mode_add 5 none) { frames := 1, cells := 0, slots := 0, locals := 21 } G K [(a0, .inr (6, [.ref a0_letters, .ref a0_followers, .ref a0_rules, .int v_o_places, .int v_o_first, .int v_o_last])), (a0_letters, .inl (K 0, 9, .inl f_o_letters)), (a0_followers, .inl (K 0, 9, .inl f_o_followers)), (a0_rules, .inl (K 0, 9, .inl f_o_rules))] ([(a1, .inr (9, [.ref w_p1_noWord, .ref w_p1_emptyWord, .ref a1_set, .ref a1_choices, .ref a1_sequences, .ref a1_parts, .int v_p1_depth, .ref a1_letters, .ref a1_followers, .int v_p1_places])), (a1_choices, .inl (K 2, 5, .inr (.inr (.inr (.inr f_p1_choices))))), (a1_letters, .inl (K 0, 24, .inl f_p1_letters)), (a1_followers, .inl (K 0, 24, .inl f_p1_followers))] ++ va_pl LP (pcs PF)) [.ref a0, .ref a1, .int x2] sz (fun (u : Int32 × Int32 × Int32 × (Nat → Int32) × (Nat → Int32) × (Nat → Int32)) => post u.1 u.2.1 u.2.2.1 u.2.2.2.1 u.2.2.2.2.1 u.2.2.2.2.2) (fun u => [(a0, .inr (6, [.ref a0_letters, .ref a0_followers, .ref a0_rules, .int u.1, .int u.2.1, .int u.2.2.1])), (a0_letters, .inl (K 0, 9, .inl u.2.2.2.1)), (a0_followers, .inl (K 0, 9, .inl u.2.2.2.2.1)), (a0_rules, .inl (K 0, 9, .inl u.2.2.2.2.2))]) 0 0 := by
  refine g_metWv (cc := c_Mode_add) (maxL := 5) (ret := none) (by decide) rfl rfl (Nat.le_of_ble_eq_true rfl) ?_
  intro p e s m below meth c A Q hx hb hml hown hname htg hK hN hP hD hA hS hR rN hret ls hl
  have hl : lv_has ls 5 [(0, .ref a0), (1, .ref a1), (2, .int x2)] := hl
  have C_44 : ∀ (n : Nat) (l3 : Int32) (l4 : Int32) (v_o_places : Int32) (v_o_first : Int32) (v_o_last : Int32) (f_o_letters : (Nat → Int32)) (f_o_followers : (Nat → Int32)) (f_o_rules : (Nat → Int32)) (H : Heap) (locs : List Loc), va_P G vwCl [(a0, .inr (6, [.ref a0_letters, .ref a0_followers, .ref a0_rules, .int v_o_places, .int v_o_first, .int v_o_last])), (a0_letters, .inl (K 0, 9, .inl f_o_letters)), (a0_followers, .inl (K 0, 9, .inl f_o_followers)), (a0_rules, .inl (K 0, 9, .inl f_o_rules))] H → va_D A [(a0, .inr (6, [.ref a0_letters, .ref a0_followers, .ref a0_rules, .int v_o_places, .int v_o_first, .int v_o_last])), (a0_letters, .inl (K 0, 9, .inl f_o_letters)), (a0_followers, .inl (K 0, 9, .inl f_o_followers)), (a0_rules, .inl (K 0, 9, .inl f_o_rules))] → va_S A s.heap H locs → ∀ (ls : Array Slot), lv_has ls 5 [(0, .ref a0), (1, .ref a1), (2, .int x2), (3, .int l3), (4, .int l4)] → p_Mode_add_44 v_p1_places f_p1_letters f_p1_followers x2 post n l3 l4 v_o_places v_o_first v_o_last f_o_letters f_o_followers f_o_rules → W p l e { frames := 1, cells := 0, slots := 0, locals := 21 } s m ([.ref a0, .ref a1, .int x2] : List Value).toArray below meth c H locs 0 0 Q (F0 m 44 ls []) := by
    intro n
    induction n with
    | zero =>
      intro l3 l4 v_o_places v_o_first v_o_last f_o_letters f_o_followers f_o_rules  H locs hP hD hS ls hl h
      exact False.elim h
    | succ n ih =>
      intro l3 l4 v_o_places v_o_first v_o_last f_o_letters f_o_followers f_o_rules  H locs hP hD hS ls hl h
      refine lv_iload hx hb d_Mode_add_44 (lv_at hl 4 rfl) ?_
      refine lv_aload_n hx hb d_Mode_add_46 rfl (lv_at hl 1 rfl) ?_
      have hPc : va_P G vwCl [(a1, .inr (9, [.ref w_p1_noWord, .ref w_p1_emptyWord, .ref a1_set, .ref a1_choices, .ref a1_sequences, .ref a1_parts, .int v_p1_depth, .ref a1_letters, .ref a1_followers, .int v_p1_places]))] _ := (gR hR rN hS).sub [0] rfl
      refine vp_callSi (va_Run.run (va_runV (As := []) (rest := [.int l4]) ⟨hx, hb, hml, hown, htg⟩ (k_RuleText_places l G K a1 a1_set a1_choices a1_sequences a1_parts a1_letters a1_followers w_p1_noWord w_p1_emptyWord v_p1_depth v_p1_places _ h) (cwV 0 htg (gGoodV m_306 m_307 m_308 m_2 m_309) rfl rfl rfl (by decide +kernel) ⟨(Nat.le_of_ble_eq_true rfl), (Nat.le_of_ble_eq_true rfl)⟩) (gS_preV (ci := 9) (q0 := 0) hK hN hPc rfl rfl) rfl rfl hl.1 rfl (lv_room (Nat.le_of_ble_eq_true rfl)) d_Mode_add_47 ⟨(Nat.le_of_ble_eq_true rfl), (Nat.le_of_ble_eq_true rfl)⟩)) (fun r5401 h => ?_)
      refine lv_icmp_ge (tgt := 120) hx hb d_Mode_add_50 (by decide) (fun hc => ?_) (fun hc => ?_)
      · replace h := h.1 hc
        exact hret (v_o_places, v_o_first, v_o_last, f_o_letters, f_o_followers, f_o_rules) _ _ _ _ h (hP.sub [0, 1, 2, 3] rfl) (hD.sub [0, 1, 2, 3] (by decide) rfl) hS d_Mode_add_120
      · replace h := h.2 hc
        refine lv_aload_n hx hb d_Mode_add_53 rfl (lv_at hl 0 rfl) ?_
        refine va_get (ci := 6) (v := .int v_o_places) hx hb htg in_Mode hown hK hP 0 rfl rfl 3 (by decide) (htg _ m_90) (fun _ h9 => h9) rfl d_Mode_add_54 ?_
        refine lv_bipush (v := 9) hx hb d_Mode_add_57 (by decide) ?_
        refine lv_icmp_ge (tgt := 120) hx hb d_Mode_add_59 (by decide) (fun hc => ?_) (fun hc => ?_)
        · replace h := h.1 hc
          exact hret (v_o_places, v_o_first, v_o_last, f_o_letters, f_o_followers, f_o_rules) _ _ _ _ h (hP.sub [0, 1, 2, 3] rfl) (hD.sub [0, 1, 2, 3] (by decide) rfl) hS d_Mode_add_120
        · replace h := h.2 hc
          refine lv_aload_n hx hb d_Mode_add_62 rfl (lv_at hl 0 rfl) ?_
          refine va_get (ci := 6) (v := .ref a0_letters) hx hb htg in_Mode hown hK hP 0 rfl rfl 0 (by decide) (htg _ m_87) (fun _ h9 => h9) rfl d_Mode_add_63 ?_
          refine lv_aload_n hx hb d_Mode_add_66 rfl (lv_at hl 0 rfl) ?_
          refine va_get (ci := 6) (v := .int v_o_places) hx hb htg in_Mode hown hK hP 0 rfl rfl 3 (by decide) (htg _ m_90) (fun _ h9 => h9) rfl d_Mode_add_67 ?_
          refine lv_aload_n hx hb d_Mode_add_70 rfl (lv_at hl 1 rfl) ?_
          refine lv_iload hx hb d_Mode_add_71 (lv_at hl 4 rfl) ?_
          have hPc : va_P G vwCl [(a1, .inr (9, [.ref w_p1_noWord, .ref w_p1_emptyWord, .ref a1_set, .ref a1_choices, .ref a1_sequences, .ref a1_parts, .int v_p1_depth, .ref a1_letters, .ref a1_followers, .int v_p1_places])), (a1_letters, .inl (K 0, 24, .inl f_p1_letters))] _ := (gR hR rN hS).sub [0, 2] rfl
          refine vp_callSi (va_Run.run (va_runV (As := [.int l4]) (rest := [.int v_o_places, .ref a0_letters]) ⟨hx, hb, hml, hown, htg⟩ (k_RuleText_lettersAt l G K a1 a1_letters a1_set a1_choices a1_sequences a1_parts a1_followers w_p1_noWord w_p1_emptyWord v_p1_depth v_p1_places f_p1_letters l4 _ h) (cwV 1 htg (gGoodV m_334 m_335 m_336 m_2 m_337) rfl rfl rfl (by decide +kernel) ⟨(Nat.le_of_ble_eq_true rfl), (Nat.le_of_ble_eq_true rfl)⟩) (gS_preV (ci := 9) (q0 := 0) hK hN hPc rfl rfl) rfl rfl hl.1 rfl (lv_room (Nat.le_of_ble_eq_true rfl)) d_Mode_add_73 ⟨(Nat.le_of_ble_eq_true rfl), (Nat.le_of_ble_eq_true rfl)⟩)) (fun r5402 h => ?_)
          obtain ⟨hin, h⟩ := h
          refine va_iast hx hb hK hP hD hS 1 0 rfl rfl hin d_Mode_add_76 (fun H locs hP hD hS => ?_)
          have hP : va_P G vwCl [(a0, .inr (6, [.ref a0_letters, .ref a0_followers, .ref a0_rules, .int v_o_places, .int v_o_first, .int v_o_last])), (a0_letters, .inl (K 0, 9, .inl (upd f_o_letters v_o_places.toNatClampNeg r5402))), (a0_followers, .inl (K 0, 9, .inl f_o_followers)), (a0_rules, .inl (K 0, 9, .inl f_o_rules))] H := hP
          have hD : va_D A [(a0, .inr (6, [.ref a0_letters, .ref a0_followers, .ref a0_rules, .int v_o_places, .int v_o_first, .int v_o_last])), (a0_letters, .inl (K 0, 9, .inl (upd f_o_letters v_o_places.toNatClampNeg r5402))), (a0_followers, .inl (K 0, 9, .inl f_o_followers)), (a0_rules, .inl (K 0, 9, .inl f_o_rules))] := hD
          refine lv_aload_n hx hb d_Mode_add_77 rfl (lv_at hl 0 rfl) ?_
          refine va_get (ci := 6) (v := .ref a0_followers) hx hb htg in_Mode hown hK hP 0 rfl rfl 1 (by decide) (htg _ m_88) (fun _ h9 => h9) rfl d_Mode_add_78 ?_
          refine lv_aload_n hx hb d_Mode_add_81 rfl (lv_at hl 0 rfl) ?_
          refine va_get (ci := 6) (v := .int v_o_places) hx hb htg in_Mode hown hK hP 0 rfl rfl 3 (by decide) (htg _ m_90) (fun _ h9 => h9) rfl d_Mode_add_82 ?_
          refine lv_aload_n hx hb d_Mode_add_85 rfl (lv_at hl 1 rfl) ?_
          refine lv_iload hx hb d_Mode_add_86 (lv_at hl 4 rfl) ?_
          have hPc : va_P G vwCl [(a1, .inr (9, [.ref w_p1_noWord, .ref w_p1_emptyWord, .ref a1_set, .ref a1_choices, .ref a1_sequences, .ref a1_parts, .int v_p1_depth, .ref a1_letters, .ref a1_followers, .int v_p1_places])), (a1_followers, .inl (K 0, 24, .inl f_p1_followers))] _ := (gR hR rN hS).sub [0, 3] rfl
          refine vp_callSi (va_Run.run (va_runV (As := [.int l4]) (rest := [.int v_o_places, .ref a0_followers]) ⟨hx, hb, hml, hown, htg⟩ (k_RuleText_followersOf l G K a1 a1_followers a1_set a1_choices a1_sequences a1_parts a1_letters w_p1_noWord w_p1_emptyWord v_p1_depth v_p1_places f_p1_followers l4 _ h) (cwV 1 htg (gGoodV m_338 m_339 m_340 m_2 m_341) rfl rfl rfl (by decide +kernel) ⟨(Nat.le_of_ble_eq_true rfl), (Nat.le_of_ble_eq_true rfl)⟩) (gS_preV (ci := 9) (q0 := 0) hK hN hPc rfl rfl) rfl rfl hl.1 rfl (lv_room (Nat.le_of_ble_eq_true rfl)) d_Mode_add_88 ⟨(Nat.le_of_ble_eq_true rfl), (Nat.le_of_ble_eq_true rfl)⟩)) (fun r5403 h => ?_)
          refine lv_iload_n hx hb d_Mode_add_91 rfl (lv_at hl 3 rfl) ?_
          refine lv_ishl hx hb d_Mode_add_92 ?_
          obtain ⟨hin, h⟩ := h
          refine va_iast hx hb hK hP hD hS 2 0 rfl rfl hin d_Mode_add_93 (fun H locs hP hD hS => ?_)
          have hP : va_P G vwCl [(a0, .inr (6, [.ref a0_letters, .ref a0_followers, .ref a0_rules, .int v_o_places, .int v_o_first, .int v_o_last])), (a0_letters, .inl (K 0, 9, .inl (upd f_o_letters v_o_places.toNatClampNeg r5402))), (a0_followers, .inl (K 0, 9, .inl (upd f_o_followers v_o_places.toNatClampNeg (r5403 <<< (l3 &&& 31))))), (a0_rules, .inl (K 0, 9, .inl f_o_rules))] H := hP
          have hD : va_D A [(a0, .inr (6, [.ref a0_letters, .ref a0_followers, .ref a0_rules, .int v_o_places, .int v_o_first, .int v_o_last])), (a0_letters, .inl (K 0, 9, .inl (upd f_o_letters v_o_places.toNatClampNeg r5402))), (a0_followers, .inl (K 0, 9, .inl (upd f_o_followers v_o_places.toNatClampNeg (r5403 <<< (l3 &&& 31))))), (a0_rules, .inl (K 0, 9, .inl f_o_rules))] := hD
          refine lv_aload_n hx hb d_Mode_add_94 rfl (lv_at hl 0 rfl) ?_
          refine va_get (ci := 6) (v := .ref a0_rules) hx hb htg in_Mode hown hK hP 0 rfl rfl 2 (by decide) (htg _ m_89) (fun _ h9 => h9) rfl d_Mode_add_95 ?_
          refine lv_aload_n hx hb d_Mode_add_98 rfl (lv_at hl 0 rfl) ?_
          refine va_get (ci := 6) (v := .int v_o_places) hx hb htg in_Mode hown hK hP 0 rfl rfl 3 (by decide) (htg _ m_90) (fun _ h9 => h9) rfl d_Mode_add_99 ?_
          refine lv_iload_n hx hb d_Mode_add_102 rfl (lv_at hl 2 rfl) ?_
          obtain ⟨hin, h⟩ := h
          refine va_iast hx hb hK hP hD hS 3 0 rfl rfl hin d_Mode_add_103 (fun H locs hP hD hS => ?_)
          have hP : va_P G vwCl [(a0, .inr (6, [.ref a0_letters, .ref a0_followers, .ref a0_rules, .int v_o_places, .int v_o_first, .int v_o_last])), (a0_letters, .inl (K 0, 9, .inl (upd f_o_letters v_o_places.toNatClampNeg r5402))), (a0_followers, .inl (K 0, 9, .inl (upd f_o_followers v_o_places.toNatClampNeg (r5403 <<< (l3 &&& 31))))), (a0_rules, .inl (K 0, 9, .inl (upd f_o_rules v_o_places.toNatClampNeg x2)))] H := hP
          have hD : va_D A [(a0, .inr (6, [.ref a0_letters, .ref a0_followers, .ref a0_rules, .int v_o_places, .int v_o_first, .int v_o_last])), (a0_letters, .inl (K 0, 9, .inl (upd f_o_letters v_o_places.toNatClampNeg r5402))), (a0_followers, .inl (K 0, 9, .inl (upd f_o_followers v_o_places.toNatClampNeg (r5403 <<< (l3 &&& 31))))), (a0_rules, .inl (K 0, 9, .inl (upd f_o_rules v_o_places.toNatClampNeg x2)))] := hD
          refine lv_aload_n hx hb d_Mode_add_104 rfl (lv_at hl 0 rfl) ?_
          refine lv_dup hx hb d_Mode_add_105 rfl ?_
          refine va_get (ci := 6) (v := .int v_o_places) hx hb htg in_Mode hown hK hP 0 rfl rfl 3 (by decide) (htg _ m_90) (fun _ h9 => h9) rfl d_Mode_add_106 ?_
          refine lv_iconst (v := 1) hx hb d_Mode_add_109 (by decide) ?_
          refine lv_iadd hx hb d_Mode_add_110 ?_
          refine va_put (ci := 6) (v := .int (v_o_places + 1)) (ty := .int) hx hb htg in_Mode t_Mode tok_Mode nm_Mode hown hK hP hD hS 0 rfl rfl 3 (by decide) (htg _ m_90) (fun _ h9 => h9) rfl (by decide +kernel) rfl rfl (Nat.le_of_ble_eq_true rfl) d_Mode_add_111 (fun H locs hP hD hS => ?_)
          have hP : va_P G vwCl [(a0, .inr (6, [.ref a0_letters, .ref a0_followers, .ref a0_rules, .int (v_o_places + 1), .int v_o_first, .int v_o_last])), (a0_letters, .inl (K 0, 9, .inl (upd f_o_letters v_o_places.toNatClampNeg r5402))), (a0_followers, .inl (K 0, 9, .inl (upd f_o_followers v_o_places.toNatClampNeg (r5403 <<< (l3 &&& 31))))), (a0_rules, .inl (K 0, 9, .inl (upd f_o_rules v_o_places.toNatClampNeg x2)))] H := hP
          have hD : va_D A [(a0, .inr (6, [.ref a0_letters, .ref a0_followers, .ref a0_rules, .int (v_o_places + 1), .int v_o_first, .int v_o_last])), (a0_letters, .inl (K 0, 9, .inl (upd f_o_letters v_o_places.toNatClampNeg r5402))), (a0_followers, .inl (K 0, 9, .inl (upd f_o_followers v_o_places.toNatClampNeg (r5403 <<< (l3 &&& 31))))), (a0_rules, .inl (K 0, 9, .inl (upd f_o_rules v_o_places.toNatClampNeg x2)))] := hD
          refine lv_iinc (v := (l4 + 1)) (lv' := [(4, .int (l4 + 1)), (0, .ref a0), (1, .ref a1), (2, .int x2), (3, .int l3)]) hx hb d_Mode_add_114 hl (k := 4) rfl (by first | rfl | decide) (by decide) rfl (fun ls hl => ?_)
          refine lv_goto (tgt := 44) hx hb d_Mode_add_117 (by decide) ?_
          exact ih l3 (l4 + 1) (v_o_places + 1) v_o_first v_o_last (upd f_o_letters v_o_places.toNatClampNeg r5402) (upd f_o_followers v_o_places.toNatClampNeg (r5403 <<< (l3 &&& 31))) (upd f_o_rules v_o_places.toNatClampNeg x2)  _ _ (hP.sub [0, 1, 2, 3] rfl) (hD.sub [0, 1, 2, 3] (by decide) rfl) hS _ (lv_sub hl [1, 2, 3, 4, 0] rfl) h
  refine lv_aload_n hx hb d_Mode_add_0 rfl (lv_at hl 0 rfl) ?_
  refine lv_dup hx hb d_Mode_add_1 rfl ?_
  refine va_get (ci := 6) (v := .int v_o_first) hx hb htg in_Mode hown hK hP 0 rfl rfl 4 (by decide) (htg _ m_91) (fun _ h9 => h9) rfl d_Mode_add_2 ?_
  refine lv_aload_n hx hb d_Mode_add_5 rfl (lv_at hl 1 rfl) ?_
  have hPc : va_P G vwCl ([(a1, .inr (9, [.ref w_p1_noWord, .ref w_p1_emptyWord, .ref a1_set, .ref a1_choices, .ref a1_sequences, .ref a1_parts, .int v_p1_depth, .ref a1_letters, .ref a1_followers, .int v_p1_places])), (a1_choices, .inl (K 2, 5, .inr (.inr (.inr (.inr f_p1_choices)))))] ++ va_pl LP (pcs PF)) _ := (gR hR rN hS).part [0, 1] rfl
  refine vp_callSi (va_Run.run (va_runV (As := []) (rest := [.int v_o_first, .ref a0]) ⟨hx, hb, hml, hown, htg⟩ (k_RuleText_firstPlaces l G K a1 a1_choices a1_set a1_sequences a1_parts a1_letters a1_followers w_p1_noWord w_p1_emptyWord v_p1_depth v_p1_places f_p1_choices LP PF _ h) (cwV 0 htg (gGoodV m_326 m_327 m_328 m_2 m_329) rfl rfl rfl (by decide +kernel) ⟨(Nat.le_of_ble_eq_true rfl), (Nat.le_of_ble_eq_true rfl)⟩) (gS_preV (ci := 9) (q0 := 0) hK hN hPc rfl rfl) rfl rfl hl.1 rfl (lv_room (Nat.le_of_ble_eq_true rfl)) d_Mode_add_6 ⟨(Nat.le_of_ble_eq_true rfl), (Nat.le_of_ble_eq_true rfl)⟩)) (fun r1 h => ?_)
  refine lv_aload_n hx hb d_Mode_add_9 rfl (lv_at hl 0 rfl) ?_
  refine va_get (ci := 6) (v := .int v_o_places) hx hb htg in_Mode hown hK hP 0 rfl rfl 3 (by decide) (htg _ m_90) (fun _ h9 => h9) rfl d_Mode_add_10 ?_
  refine lv_ishl hx hb d_Mode_add_13 ?_
  refine lv_ior hx hb d_Mode_add_14 ?_
  refine va_put (ci := 6) (v := .int (v_o_first ||| (r1 <<< (v_o_places &&& 31)))) (ty := .int) hx hb htg in_Mode t_Mode tok_Mode nm_Mode hown hK hP hD hS 0 rfl rfl 4 (by decide) (htg _ m_91) (fun _ h9 => h9) rfl (by decide +kernel) rfl rfl (Nat.le_of_ble_eq_true rfl) d_Mode_add_15 (fun H locs hP hD hS => ?_)
  have hP : va_P G vwCl [(a0, .inr (6, [.ref a0_letters, .ref a0_followers, .ref a0_rules, .int v_o_places, .int (v_o_first ||| (r1 <<< (v_o_places &&& 31))), .int v_o_last])), (a0_letters, .inl (K 0, 9, .inl f_o_letters)), (a0_followers, .inl (K 0, 9, .inl f_o_followers)), (a0_rules, .inl (K 0, 9, .inl f_o_rules))] H := hP
  have hD : va_D A [(a0, .inr (6, [.ref a0_letters, .ref a0_followers, .ref a0_rules, .int v_o_places, .int (v_o_first ||| (r1 <<< (v_o_places &&& 31))), .int v_o_last])), (a0_letters, .inl (K 0, 9, .inl f_o_letters)), (a0_followers, .inl (K 0, 9, .inl f_o_followers)), (a0_rules, .inl (K 0, 9, .inl f_o_rules))] := hD
  refine lv_aload_n hx hb d_Mode_add_18 rfl (lv_at hl 0 rfl) ?_
  refine lv_dup hx hb d_Mode_add_19 rfl ?_
  refine va_get (ci := 6) (v := .int v_o_last) hx hb htg in_Mode hown hK hP 0 rfl rfl 5 (by decide) (htg _ m_92) (fun _ h9 => h9) rfl d_Mode_add_20 ?_
  refine lv_aload_n hx hb d_Mode_add_23 rfl (lv_at hl 1 rfl) ?_
  have hPc : va_P G vwCl ([(a1, .inr (9, [.ref w_p1_noWord, .ref w_p1_emptyWord, .ref a1_set, .ref a1_choices, .ref a1_sequences, .ref a1_parts, .int v_p1_depth, .ref a1_letters, .ref a1_followers, .int v_p1_places])), (a1_choices, .inl (K 2, 5, .inr (.inr (.inr (.inr f_p1_choices)))))] ++ va_pl LP (pcs PF)) _ := (gR hR rN hS).part [0, 1] rfl
  refine vp_callSi (va_Run.run (va_runV (As := []) (rest := [.int v_o_last, .ref a0]) ⟨hx, hb, hml, hown, htg⟩ (k_RuleText_lastPlaces l G K a1 a1_choices a1_set a1_sequences a1_parts a1_letters a1_followers w_p1_noWord w_p1_emptyWord v_p1_depth v_p1_places f_p1_choices LP PF _ h) (cwV 0 htg (gGoodV m_330 m_331 m_332 m_2 m_333) rfl rfl rfl (by decide +kernel) ⟨(Nat.le_of_ble_eq_true rfl), (Nat.le_of_ble_eq_true rfl)⟩) (gS_preV (ci := 9) (q0 := 0) hK hN hPc rfl rfl) rfl rfl hl.1 rfl (lv_room (Nat.le_of_ble_eq_true rfl)) d_Mode_add_24 ⟨(Nat.le_of_ble_eq_true rfl), (Nat.le_of_ble_eq_true rfl)⟩)) (fun r2 h => ?_)
  refine lv_aload_n hx hb d_Mode_add_27 rfl (lv_at hl 0 rfl) ?_
  refine va_get (ci := 6) (v := .int v_o_places) hx hb htg in_Mode hown hK hP 0 rfl rfl 3 (by decide) (htg _ m_90) (fun _ h9 => h9) rfl d_Mode_add_28 ?_
  refine lv_ishl hx hb d_Mode_add_31 ?_
  refine lv_ior hx hb d_Mode_add_32 ?_
  refine va_put (ci := 6) (v := .int (v_o_last ||| (r2 <<< (v_o_places &&& 31)))) (ty := .int) hx hb htg in_Mode t_Mode tok_Mode nm_Mode hown hK hP hD hS 0 rfl rfl 5 (by decide) (htg _ m_92) (fun _ h9 => h9) rfl (by decide +kernel) rfl rfl (Nat.le_of_ble_eq_true rfl) d_Mode_add_33 (fun H locs hP hD hS => ?_)
  have hP : va_P G vwCl [(a0, .inr (6, [.ref a0_letters, .ref a0_followers, .ref a0_rules, .int v_o_places, .int (v_o_first ||| (r1 <<< (v_o_places &&& 31))), .int (v_o_last ||| (r2 <<< (v_o_places &&& 31)))])), (a0_letters, .inl (K 0, 9, .inl f_o_letters)), (a0_followers, .inl (K 0, 9, .inl f_o_followers)), (a0_rules, .inl (K 0, 9, .inl f_o_rules))] H := hP
  have hD : va_D A [(a0, .inr (6, [.ref a0_letters, .ref a0_followers, .ref a0_rules, .int v_o_places, .int (v_o_first ||| (r1 <<< (v_o_places &&& 31))), .int (v_o_last ||| (r2 <<< (v_o_places &&& 31)))])), (a0_letters, .inl (K 0, 9, .inl f_o_letters)), (a0_followers, .inl (K 0, 9, .inl f_o_followers)), (a0_rules, .inl (K 0, 9, .inl f_o_rules))] := hD
  refine lv_aload_n hx hb d_Mode_add_36 rfl (lv_at hl 0 rfl) ?_
  refine va_get (ci := 6) (v := .int v_o_places) hx hb htg in_Mode hown hK hP 0 rfl rfl 3 (by decide) (htg _ m_90) (fun _ h9 => h9) rfl d_Mode_add_37 ?_
  refine lv_istore_n (lv' := [(3, .int v_o_places), (0, .ref a0), (1, .ref a1), (2, .int x2)]) hx hb d_Mode_add_40 rfl hl (by decide) rfl (fun ls hl => ?_)
  refine lv_iconst (v := 0) hx hb d_Mode_add_41 (by decide) ?_
  refine lv_istore (lv' := [(4, .int 0), (3, .int v_o_places), (0, .ref a0), (1, .ref a1), (2, .int x2)]) hx hb d_Mode_add_42 hl (by decide) rfl (fun ls hl => ?_)
  obtain ⟨k, h⟩ := h
  exact C_44 k v_o_places 0 v_o_places (v_o_first ||| (r1 <<< (v_o_places &&& 31))) (v_o_last ||| (r2 <<< (v_o_places &&& 31))) f_o_letters f_o_followers f_o_rules  _ _ (hP.sub [0, 1, 2, 3] rfl) (hD.sub [0, 1, 2, 3] (by decide) rfl) hS _ (lv_sub hl [2, 3, 4, 1, 0] rfl) h
