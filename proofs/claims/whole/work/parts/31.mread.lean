theorem d_M_brackets_0 : decode c_M_brackets 0 = .ok (.aload_n 0, 1) := by decide +kernel
theorem d_M_brackets_1 : decode c_M_brackets 1 = .ok (.invokevirtual 166, 3) := by decide +kernel
theorem d_M_brackets_4 : decode c_M_brackets 4 = .ok (.bipush 94, 2) := by decide +kernel
theorem d_M_brackets_6 : decode c_M_brackets 6 = .ok (.if_icmp .ne 7, 3) := by decide +kernel
theorem d_M_brackets_9 : decode c_M_brackets 9 = .ok (.iconst 1, 1) := by decide +kernel
theorem d_M_brackets_10 : decode c_M_brackets 10 = .ok (.goto 4, 3) := by decide +kernel
theorem d_M_brackets_13 : decode c_M_brackets 13 = .ok (.iconst 0, 1) := by decide +kernel
theorem d_M_brackets_14 : decode c_M_brackets 14 = .ok (.istore_n 1, 1) := by decide +kernel
theorem d_M_brackets_15 : decode c_M_brackets 15 = .ok (.iload_n 1, 1) := by decide +kernel
theorem d_M_brackets_16 : decode c_M_brackets 16 = .ok (.ifCond .eq 13, 3) := by decide +kernel
theorem d_M_brackets_19 : decode c_M_brackets 19 = .ok (.aload_n 0, 1) := by decide +kernel
theorem d_M_brackets_20 : decode c_M_brackets 20 = .ok (.dup, 1) := by decide +kernel
theorem d_M_brackets_21 : decode c_M_brackets 21 = .ok (.getfield 140, 3) := by decide +kernel
theorem d_M_brackets_24 : decode c_M_brackets 24 = .ok (.iconst 1, 1) := by decide +kernel
theorem d_M_brackets_25 : decode c_M_brackets 25 = .ok (.iadd, 1) := by decide +kernel
theorem d_M_brackets_26 : decode c_M_brackets 26 = .ok (.putfield 140, 3) := by decide +kernel
theorem d_M_brackets_29 : decode c_M_brackets 29 = .ok (.iconst 0, 1) := by decide +kernel
theorem d_M_brackets_30 : decode c_M_brackets 30 = .ok (.istore_n 2, 1) := by decide +kernel
theorem d_M_brackets_31 : decode c_M_brackets 31 = .ok (.iconst 0, 1) := by decide +kernel
theorem d_M_brackets_32 : decode c_M_brackets 32 = .ok (.istore_n 3, 1) := by decide +kernel
theorem d_M_brackets_33 : decode c_M_brackets 33 = .ok (.aload_n 0, 1) := by decide +kernel
theorem d_M_brackets_34 : decode c_M_brackets 34 = .ok (.getfield 163, 3) := by decide +kernel
theorem d_M_brackets_37 : decode c_M_brackets 37 = .ok (.iconst (-1), 1) := by decide +kernel
theorem d_M_brackets_38 : decode c_M_brackets 38 = .ok (.if_icmp .ne 138, 3) := by decide +kernel
theorem d_M_brackets_41 : decode c_M_brackets 41 = .ok (.aload_n 0, 1) := by decide +kernel
theorem d_M_brackets_42 : decode c_M_brackets 42 = .ok (.invokevirtual 166, 3) := by decide +kernel
theorem d_M_brackets_45 : decode c_M_brackets 45 = .ok (.bipush 93, 2) := by decide +kernel
theorem d_M_brackets_47 : decode c_M_brackets 47 = .ok (.if_icmp .ne 7, 3) := by decide +kernel
theorem d_M_brackets_50 : decode c_M_brackets 50 = .ok (.iload_n 3, 1) := by decide +kernel
theorem d_M_brackets_51 : decode c_M_brackets 51 = .ok (.ifCond .ne 125, 3) := by decide +kernel
theorem d_M_brackets_54 : decode c_M_brackets 54 = .ok (.aload_n 0, 1) := by decide +kernel
theorem d_M_brackets_55 : decode c_M_brackets 55 = .ok (.invokevirtual 166, 3) := by decide +kernel
theorem d_M_brackets_58 : decode c_M_brackets 58 = .ok (.istore 4, 2) := by decide +kernel
theorem d_M_brackets_60 : decode c_M_brackets 60 = .ok (.iload 4, 2) := by decide +kernel
theorem d_M_brackets_62 : decode c_M_brackets 62 = .ok (.invokestatic 170, 3) := by decide +kernel
theorem d_M_brackets_65 : decode c_M_brackets 65 = .ok (.ifCond .ne 9, 3) := by decide +kernel
theorem d_M_brackets_68 : decode c_M_brackets 68 = .ok (.aload_n 0, 1) := by decide +kernel
theorem d_M_brackets_69 : decode c_M_brackets 69 = .ok (.invokevirtual 174, 3) := by decide +kernel
theorem d_M_brackets_72 : decode c_M_brackets 72 = .ok (.iconst 0, 1) := by decide +kernel
theorem d_M_brackets_73 : decode c_M_brackets 73 = .ok (.ireturn, 1) := by decide +kernel
theorem d_M_brackets_74 : decode c_M_brackets 74 = .ok (.aload_n 0, 1) := by decide +kernel
theorem d_M_brackets_75 : decode c_M_brackets 75 = .ok (.dup, 1) := by decide +kernel
theorem d_M_brackets_76 : decode c_M_brackets 76 = .ok (.getfield 140, 3) := by decide +kernel
theorem d_M_brackets_79 : decode c_M_brackets 79 = .ok (.iconst 1, 1) := by decide +kernel
theorem d_M_brackets_80 : decode c_M_brackets 80 = .ok (.iadd, 1) := by decide +kernel
theorem d_M_brackets_81 : decode c_M_brackets 81 = .ok (.putfield 140, 3) := by decide +kernel
theorem d_M_brackets_84 : decode c_M_brackets 84 = .ok (.iload 4, 2) := by decide +kernel
theorem d_M_brackets_86 : decode c_M_brackets 86 = .ok (.istore 5, 2) := by decide +kernel
theorem d_M_brackets_88 : decode c_M_brackets 88 = .ok (.aload_n 0, 1) := by decide +kernel
theorem d_M_brackets_89 : decode c_M_brackets 89 = .ok (.invokevirtual 166, 3) := by decide +kernel
theorem d_M_brackets_92 : decode c_M_brackets 92 = .ok (.bipush 45, 2) := by decide +kernel
theorem d_M_brackets_94 : decode c_M_brackets 94 = .ok (.if_icmp .ne 50, 3) := by decide +kernel
theorem d_M_brackets_97 : decode c_M_brackets 97 = .ok (.aload_n 0, 1) := by decide +kernel
theorem d_M_brackets_98 : decode c_M_brackets 98 = .ok (.dup, 1) := by decide +kernel
theorem d_M_brackets_99 : decode c_M_brackets 99 = .ok (.getfield 140, 3) := by decide +kernel
theorem d_M_brackets_102 : decode c_M_brackets 102 = .ok (.iconst 1, 1) := by decide +kernel
theorem d_M_brackets_103 : decode c_M_brackets 103 = .ok (.iadd, 1) := by decide +kernel
theorem d_M_brackets_104 : decode c_M_brackets 104 = .ok (.putfield 140, 3) := by decide +kernel
theorem d_M_brackets_107 : decode c_M_brackets 107 = .ok (.aload_n 0, 1) := by decide +kernel
theorem d_M_brackets_108 : decode c_M_brackets 108 = .ok (.invokevirtual 166, 3) := by decide +kernel
theorem d_M_brackets_111 : decode c_M_brackets 111 = .ok (.istore 5, 2) := by decide +kernel
theorem d_M_brackets_113 : decode c_M_brackets 113 = .ok (.iload 5, 2) := by decide +kernel
theorem d_M_brackets_115 : decode c_M_brackets 115 = .ok (.invokestatic 170, 3) := by decide +kernel
theorem d_M_brackets_118 : decode c_M_brackets 118 = .ok (.ifCond .eq 10, 3) := by decide +kernel
theorem d_M_brackets_121 : decode c_M_brackets 121 = .ok (.iload 5, 2) := by decide +kernel
theorem d_M_brackets_123 : decode c_M_brackets 123 = .ok (.iload 4, 2) := by decide +kernel
theorem d_M_brackets_125 : decode c_M_brackets 125 = .ok (.if_icmp .ge 9, 3) := by decide +kernel
theorem d_M_brackets_128 : decode c_M_brackets 128 = .ok (.aload_n 0, 1) := by decide +kernel
theorem d_M_brackets_129 : decode c_M_brackets 129 = .ok (.invokevirtual 174, 3) := by decide +kernel
theorem d_M_brackets_132 : decode c_M_brackets 132 = .ok (.iconst 0, 1) := by decide +kernel
theorem d_M_brackets_133 : decode c_M_brackets 133 = .ok (.ireturn, 1) := by decide +kernel
theorem d_M_brackets_134 : decode c_M_brackets 134 = .ok (.aload_n 0, 1) := by decide +kernel
theorem d_M_brackets_135 : decode c_M_brackets 135 = .ok (.dup, 1) := by decide +kernel
theorem d_M_brackets_136 : decode c_M_brackets 136 = .ok (.getfield 140, 3) := by decide +kernel
theorem d_M_brackets_139 : decode c_M_brackets 139 = .ok (.iconst 1, 1) := by decide +kernel
theorem d_M_brackets_140 : decode c_M_brackets 140 = .ok (.iadd, 1) := by decide +kernel
theorem d_M_brackets_141 : decode c_M_brackets 141 = .ok (.putfield 140, 3) := by decide +kernel
theorem d_M_brackets_144 : decode c_M_brackets 144 = .ok (.iload 4, 2) := by decide +kernel
theorem d_M_brackets_146 : decode c_M_brackets 146 = .ok (.istore 6, 2) := by decide +kernel
theorem d_M_brackets_148 : decode c_M_brackets 148 = .ok (.iload 6, 2) := by decide +kernel
theorem d_M_brackets_150 : decode c_M_brackets 150 = .ok (.iload 5, 2) := by decide +kernel
theorem d_M_brackets_152 : decode c_M_brackets 152 = .ok (.if_icmp .gt 19, 3) := by decide +kernel
theorem d_M_brackets_155 : decode c_M_brackets 155 = .ok (.iload_n 2, 1) := by decide +kernel
theorem d_M_brackets_156 : decode c_M_brackets 156 = .ok (.iconst 1, 1) := by decide +kernel
theorem d_M_brackets_157 : decode c_M_brackets 157 = .ok (.iload 6, 2) := by decide +kernel
theorem d_M_brackets_159 : decode c_M_brackets 159 = .ok (.bipush 97, 2) := by decide +kernel
theorem d_M_brackets_161 : decode c_M_brackets 161 = .ok (.isub, 1) := by decide +kernel
theorem d_M_brackets_162 : decode c_M_brackets 162 = .ok (.ishl, 1) := by decide +kernel
theorem d_M_brackets_163 : decode c_M_brackets 163 = .ok (.ior, 1) := by decide +kernel
theorem d_M_brackets_164 : decode c_M_brackets 164 = .ok (.istore_n 2, 1) := by decide +kernel
theorem d_M_brackets_165 : decode c_M_brackets 165 = .ok (.iinc 6 1, 3) := by decide +kernel
theorem d_M_brackets_168 : decode c_M_brackets 168 = .ok (.goto (-20), 3) := by decide +kernel
theorem d_M_brackets_171 : decode c_M_brackets 171 = .ok (.iconst 1, 1) := by decide +kernel
theorem d_M_brackets_172 : decode c_M_brackets 172 = .ok (.istore_n 3, 1) := by decide +kernel
theorem d_M_brackets_173 : decode c_M_brackets 173 = .ok (.goto (-140), 3) := by decide +kernel
theorem d_M_brackets_176 : decode c_M_brackets 176 = .ok (.iload_n 1, 1) := by decide +kernel
theorem d_M_brackets_177 : decode c_M_brackets 177 = .ok (.ifCond .eq 10, 3) := by decide +kernel
theorem d_M_brackets_180 : decode c_M_brackets 180 = .ok (.bipush 63, 2) := by decide +kernel
theorem d_M_brackets_182 : decode c_M_brackets 182 = .ok (.iload_n 2, 1) := by decide +kernel
theorem d_M_brackets_183 : decode c_M_brackets 183 = .ok (.iconst (-1), 1) := by decide +kernel
theorem d_M_brackets_184 : decode c_M_brackets 184 = .ok (.ixor, 1) := by decide +kernel
theorem d_M_brackets_185 : decode c_M_brackets 185 = .ok (.iand, 1) := by decide +kernel
theorem d_M_brackets_186 : decode c_M_brackets 186 = .ok (.istore_n 2, 1) := by decide +kernel
theorem d_M_brackets_187 : decode c_M_brackets 187 = .ok (.iload_n 2, 1) := by decide +kernel
theorem d_M_brackets_188 : decode c_M_brackets 188 = .ok (.ifCond .ne 7, 3) := by decide +kernel
theorem d_M_brackets_191 : decode c_M_brackets 191 = .ok (.aload_n 0, 1) := by decide +kernel
theorem d_M_brackets_192 : decode c_M_brackets 192 = .ok (.invokevirtual 174, 3) := by decide +kernel
theorem d_M_brackets_195 : decode c_M_brackets 195 = .ok (.aload_n 0, 1) := by decide +kernel
theorem d_M_brackets_196 : decode c_M_brackets 196 = .ok (.dup, 1) := by decide +kernel
theorem d_M_brackets_197 : decode c_M_brackets 197 = .ok (.getfield 140, 3) := by decide +kernel
theorem d_M_brackets_200 : decode c_M_brackets 200 = .ok (.iconst 1, 1) := by decide +kernel
theorem d_M_brackets_201 : decode c_M_brackets 201 = .ok (.iadd, 1) := by decide +kernel
theorem d_M_brackets_202 : decode c_M_brackets 202 = .ok (.putfield 140, 3) := by decide +kernel
theorem d_M_brackets_205 : decode c_M_brackets 205 = .ok (.iload_n 2, 1) := by decide +kernel
theorem d_M_brackets_206 : decode c_M_brackets 206 = .ok (.ireturn, 1) := by decide +kernel
def p_M_brackets_176  (post : Int32 → Int32 → Int32 → Prop) (l1 : Int32) (l2 : Int32) (v_o_at : Int32) (v_o_wrong : Int32) : Prop := ((l1 = 0 → ((¬ l2 = 0 → (post l2 (v_o_at + 1) v_o_wrong)) ∧ (l2 = 0 → (p_M_refuse v_o_at v_o_wrong (fun u18601 => (post l2 (v_o_at + 1) u18601)))))) ∧ (¬ l1 = 0 → ((¬ ((63 : Int32) &&& (l2 ^^^ (-1 : Int32))) = 0 → (post ((63 : Int32) &&& (l2 ^^^ (-1 : Int32))) (v_o_at + 1) v_o_wrong)) ∧ (((63 : Int32) &&& (l2 ^^^ (-1 : Int32))) = 0 → (p_M_refuse v_o_at v_o_wrong (fun u18603 => (post ((63 : Int32) &&& (l2 ^^^ (-1 : Int32))) (v_o_at + 1) u18603)))))))
def p_M_brackets_171  (post : Int32 → Int32 → Int32 → Prop) (K_33 : Int32 → Int32 → Int32 → Int32 → Int32 → Prop) (l1 : Int32) (l2 : Int32) (v_o_at : Int32) (v_o_wrong : Int32) : Prop := (K_33 l1 l2 1 v_o_at v_o_wrong)
def p_M_brackets_148  (post : Int32 → Int32 → Int32 → Prop) (K_33 : Int32 → Int32 → Int32 → Int32 → Int32 → Prop) : Nat → Int32 → Int32 → Int32 → Int32 → Int32 → Int32 → Prop
  | 0, _, _, _, _, _, _ => False
  | n + 1, l1, l2, l5, l6, v_o_at, v_o_wrong => ((l5 < l6 → (p_M_brackets_171 post K_33 l1 l2 v_o_at v_o_wrong)) ∧ (¬ l5 < l6 → (p_M_brackets_148 post K_33 n l1 (l2 ||| ((1 : Int32) <<< ((l6 - 97) &&& 31))) l5 (l6 + 1) v_o_at v_o_wrong)))
def p_M_brackets_128  (post : Int32 → Int32 → Int32 → Prop) (v_o_at : Int32) (v_o_wrong : Int32) : Prop := (p_M_refuse v_o_at v_o_wrong (fun u13801 => (post 0 v_o_at u13801)))
def p_M_brackets_68  (post : Int32 → Int32 → Int32 → Prop) (v_o_at : Int32) (v_o_wrong : Int32) : Prop := (p_M_refuse v_o_at v_o_wrong (fun u7801 => (post 0 v_o_at u7801)))
def p_M_brackets_33 (v_o_typed : Int32) (f_o_tape : (Nat → Int32)) (post : Int32 → Int32 → Int32 → Prop) : Nat → Int32 → Int32 → Int32 → Int32 → Int32 → Prop
  | 0, _, _, _, _, _ => False
  | n + 1, l1, l2, l3, v_o_at, v_o_wrong => ((¬ v_o_wrong = (-1) → (p_M_brackets_176 post l1 l2 v_o_at v_o_wrong)) ∧ (v_o_wrong = (-1) → (p_M_here v_o_typed v_o_at f_o_tape (fun r4301 => ((¬ r4301 = 93 → (p_M_here v_o_typed v_o_at f_o_tape (fun r4302 => (p_M_isLetter r4302 (fun r4303 => ((¬ r4303 = 0 → (p_M_here v_o_typed (v_o_at + 1) f_o_tape (fun r4304 => ((¬ r4304 = 45 → (∃ k, p_M_brackets_148 post (p_M_brackets_33 v_o_typed f_o_tape post n) k l1 l2 r4302 r4302 (v_o_at + 1) v_o_wrong)) ∧ (r4304 = 45 → (p_M_here v_o_typed ((v_o_at + 1) + 1) f_o_tape (fun r4305 => (p_M_isLetter r4305 (fun r4306 => ((r4306 = 0 → (p_M_brackets_128 post ((v_o_at + 1) + 1) v_o_wrong)) ∧ (¬ r4306 = 0 → ((r4302 ≤ r4305 → (∃ k, p_M_brackets_148 post (p_M_brackets_33 v_o_typed f_o_tape post n) k l1 l2 r4305 r4302 (((v_o_at + 1) + 1) + 1) v_o_wrong)) ∧ (¬ r4302 ≤ r4305 → (p_M_brackets_128 post ((v_o_at + 1) + 1) v_o_wrong)))))))))))))) ∧ (r4303 = 0 → (p_M_brackets_68 post v_o_at v_o_wrong)))))))) ∧ (r4301 = 93 → ((¬ l3 = 0 → (p_M_brackets_176 post l1 l2 v_o_at v_o_wrong)) ∧ (l3 = 0 → (p_M_here v_o_typed v_o_at f_o_tape (fun r4307 => (p_M_isLetter r4307 (fun r4308 => ((¬ r4308 = 0 → (p_M_here v_o_typed (v_o_at + 1) f_o_tape (fun r4309 => ((¬ r4309 = 45 → (∃ k, p_M_brackets_148 post (p_M_brackets_33 v_o_typed f_o_tape post n) k l1 l2 r4307 r4307 (v_o_at + 1) v_o_wrong)) ∧ (r4309 = 45 → (p_M_here v_o_typed ((v_o_at + 1) + 1) f_o_tape (fun r4310 => (p_M_isLetter r4310 (fun r4311 => ((r4311 = 0 → (p_M_brackets_128 post ((v_o_at + 1) + 1) v_o_wrong)) ∧ (¬ r4311 = 0 → ((r4307 ≤ r4310 → (∃ k, p_M_brackets_148 post (p_M_brackets_33 v_o_typed f_o_tape post n) k l1 l2 r4310 r4307 (((v_o_at + 1) + 1) + 1) v_o_wrong)) ∧ (¬ r4307 ≤ r4310 → (p_M_brackets_128 post ((v_o_at + 1) + 1) v_o_wrong)))))))))))))) ∧ (r4308 = 0 → (p_M_brackets_68 post v_o_at v_o_wrong)))))))))))))))
def p_M_brackets (v_o_typed : Int32) (v_o_at : Int32) (v_o_wrong : Int32) (f_o_tape : (Nat → Int32)) (post : Int32 → Int32 → Int32 → Prop) : Prop := (p_M_here v_o_typed v_o_at f_o_tape (fun r1 => ((¬ r1 = 94 → (∃ k, p_M_brackets_33 v_o_typed f_o_tape post k 0 0 0 v_o_at v_o_wrong)) ∧ (r1 = 94 → (∃ k, p_M_brackets_33 v_o_typed f_o_tape post k 1 0 0 (v_o_at + 1) v_o_wrong)))))
set_option maxHeartbeats 4000000 in
set_option maxRecDepth 100000 in
theorem k_M_brackets (l : Launch) (G : va_G) (K : Nat → ClassId) (a0 : Nat) (ad : Nat → Nat) (sz : Nat) (v_o_code : Int32) (v_o_typed : Int32) (v_o_rules : Int32) (v_o_at : Int32) (v_o_read : Int32) (v_o_depth : Int32) (v_o_wrong : Int32) (v_o_there : Int32) (v_o_ended : Int32) (v_o_mode : Int32) (v_o_kept : Int32) (v_o_came : Int32) (v_o_pending : Int32) (v_o_looked : Int32) (v_o_tokens : Int32) (v_o_oldest : Int32) (f_o_tape : (Nat → Int32)) (post : Int32 → Int32 → Int32 → Prop) (h : p_M_brackets v_o_typed v_o_at v_o_wrong f_o_tape post) : MWi l y_M_brackets (.code y_M_brackets c_M_brackets 7 (some .int)) { frames := 1, cells := 0, slots := 0, locals := 20 } G K [(a0, .inr (12, oM v_o_code v_o_typed v_o_rules v_o_at v_o_read v_o_depth v_o_wrong v_o_there v_o_ended v_o_mode v_o_kept v_o_came v_o_pending v_o_looked v_o_tokens v_o_oldest ad))] [((ad 1), .inl (K 0, 24, .inl f_o_tape))] [.ref a0] sz (fun r (u : Int32 × Int32) => post r u.1 u.2) (fun u => [(a0, .inr (12, oM v_o_code v_o_typed v_o_rules u.1 v_o_read v_o_depth u.2 v_o_there v_o_ended v_o_mode v_o_kept v_o_came v_o_pending v_o_looked v_o_tokens v_o_oldest ad))]) 0 0 := by
  refine g_metWi (cc := c_M_brackets) (maxL := 7) (ret := some .int) (rt := .int) (by decide) rfl rfl (Nat.le_of_ble_eq_true rfl) ?_
  intro p e s m below meth c A Q hx hb hml hown hname htg hK hN hP hD hA hS hR rN hret ls hl
  have hl : lv_has ls 7 [(0, .ref a0)] := hl
  have C_176 : ∀ (l1 : Int32) (l2 : Int32) (v_o_at : Int32) (v_o_wrong : Int32) (H : Heap) (locs : List Loc), va_P G vwCl [(a0, .inr (12, oM v_o_code v_o_typed v_o_rules v_o_at v_o_read v_o_depth v_o_wrong v_o_there v_o_ended v_o_mode v_o_kept v_o_came v_o_pending v_o_looked v_o_tokens v_o_oldest ad))] H → va_D A [(a0, .inr (12, oM v_o_code v_o_typed v_o_rules v_o_at v_o_read v_o_depth v_o_wrong v_o_there v_o_ended v_o_mode v_o_kept v_o_came v_o_pending v_o_looked v_o_tokens v_o_oldest ad))] → va_S A s.heap H locs → ∀ (ls : Array Slot), lv_has ls 7 [(0, .ref a0), (1, .int l1), (2, .int l2)] → p_M_brackets_176 post l1 l2 v_o_at v_o_wrong → W p l e { frames := 1, cells := 0, slots := 0, locals := 20 } s m ([.ref a0] : List Value).toArray below meth c H locs 0 0 Q (F0 m 176 ls []) := by
    intro  l1 l2 v_o_at v_o_wrong  H locs hP hD hS ls hl h
    refine lv_iload_n hx hb d_M_brackets_176 rfl (lv_at hl 1 rfl) ?_
    refine lv_if_eq (tgt := 187) hx hb d_M_brackets_177 (by decide) (fun hc => ?_) (fun hc => ?_)
    · replace h := h.1 hc
      refine lv_iload_n hx hb d_M_brackets_187 rfl (lv_at hl 2 rfl) ?_
      refine lv_if_ne (tgt := 195) hx hb d_M_brackets_188 (by decide) (fun hc => ?_) (fun hc => ?_)
      · replace h := h.1 hc
        refine lv_aload_n hx hb d_M_brackets_195 rfl (lv_at hl 0 rfl) ?_
        refine lv_dup hx hb d_M_brackets_196 rfl ?_
        refine va_get (ci := 12) (v := .int v_o_at) hx hb htg in_M hown hK hP 0 rfl rfl 12 (by decide) (htg _ m_622) (fun _ h9 => h9) rfl d_M_brackets_197 ?_
        refine lv_iconst (v := 1) hx hb d_M_brackets_200 (by decide) ?_
        refine lv_iadd hx hb d_M_brackets_201 ?_
        refine va_put (ci := 12) (v := .int (v_o_at + 1)) (ty := .int) hx hb htg in_M t_M tok_M nm_M hown hK hP hD hS 0 rfl rfl 12 (by decide) (htg _ m_622) (fun _ h9 => h9) rfl (by decide +kernel) rfl rfl (Nat.le_of_ble_eq_true rfl) d_M_brackets_202 (fun H locs hP hD hS => ?_)
        have hP : va_P G vwCl [(a0, .inr (12, oM v_o_code v_o_typed v_o_rules (v_o_at + 1) v_o_read v_o_depth v_o_wrong v_o_there v_o_ended v_o_mode v_o_kept v_o_came v_o_pending v_o_looked v_o_tokens v_o_oldest ad))] H := hP
        have hD : va_D A [(a0, .inr (12, oM v_o_code v_o_typed v_o_rules (v_o_at + 1) v_o_read v_o_depth v_o_wrong v_o_there v_o_ended v_o_mode v_o_kept v_o_came v_o_pending v_o_looked v_o_tokens v_o_oldest ad))] := hD
        refine lv_iload_n hx hb d_M_brackets_205 rfl (lv_at hl 2 rfl) ?_
        exact hret _ ((v_o_at + 1), v_o_wrong) _ _ _ _ h (vp_nar_int _) (hP.sub [0] rfl) (hD.sub [0] (by decide) rfl) hS d_M_brackets_206
      · replace h := h.2 hc
        refine lv_aload_n hx hb d_M_brackets_191 rfl (lv_at hl 0 rfl) ?_
        have hPc : va_P G vwCl [(a0, .inr (12, oM v_o_code v_o_typed v_o_rules v_o_at v_o_read v_o_depth v_o_wrong v_o_there v_o_ended v_o_mode v_o_kept v_o_came v_o_pending v_o_looked v_o_tokens v_o_oldest ad))] _ := hP.sub [0] rfl
        have hDc : va_D A [(a0, .inr (12, oM v_o_code v_o_typed v_o_rules v_o_at v_o_read v_o_depth v_o_wrong v_o_there v_o_ended v_o_mode v_o_kept v_o_came v_o_pending v_o_looked v_o_tokens v_o_oldest ad))] := hD.sub [0] (by decide) rfl
        have hRc : va_P G vwCl [] _ := hP.sub [] rfl
        have hJc : gJ [(a0, .inr (12, oM v_o_code v_o_typed v_o_rules v_o_at v_o_read v_o_depth v_o_wrong v_o_there v_o_ended v_o_mode v_o_kept v_o_came v_o_pending v_o_looked v_o_tokens v_o_oldest ad))] [] := gJ_nil
        refine g_callv (wr := []) (va_runV (As := []) (rest := []) ⟨hx, hb, hml, hown, htg⟩ (k_M_refuse l G K a0 ad _ v_o_code v_o_typed v_o_rules v_o_at v_o_read v_o_depth v_o_wrong v_o_there v_o_ended v_o_mode v_o_kept v_o_came v_o_pending v_o_looked v_o_tokens v_o_oldest _ h) (cwV 0 htg (gGoodV m_712 m_713 m_901 m_13 m_714) rfl rfl rfl (by decide +kernel) ⟨(Nat.le_of_ble_eq_true rfl), (Nat.le_of_ble_eq_true rfl)⟩) (gW_preV (ci := 12) (q0 := 0) hK hN hPc hDc hRc hJc hPc rfl rfl) rfl rfl hl.1 rfl (lv_room (Nat.le_of_ble_eq_true rfl)) d_M_brackets_192 ⟨(Nat.le_of_ble_eq_true rfl), (Nat.le_of_ble_eq_true rfl)⟩) hP hD hS hA [0] [] rfl rfl (by decide) (by decide) (fun u H locs h hP hD hS => ?_)
        obtain ⟨u18601, rfl⟩ : ∃ z, z = u := ⟨_, rfl⟩
        try dsimp only at h
        have hP : va_P G vwCl [(a0, .inr (12, oM v_o_code v_o_typed v_o_rules v_o_at v_o_read v_o_depth u18601 v_o_there v_o_ended v_o_mode v_o_kept v_o_came v_o_pending v_o_looked v_o_tokens v_o_oldest ad))] H := hP
        have hD : va_D A [(a0, .inr (12, oM v_o_code v_o_typed v_o_rules v_o_at v_o_read v_o_depth u18601 v_o_there v_o_ended v_o_mode v_o_kept v_o_came v_o_pending v_o_looked v_o_tokens v_o_oldest ad))] := hD
        refine lv_aload_n hx hb d_M_brackets_195 rfl (lv_at hl 0 rfl) ?_
        refine lv_dup hx hb d_M_brackets_196 rfl ?_
        refine va_get (ci := 12) (v := .int v_o_at) hx hb htg in_M hown hK hP 0 rfl rfl 12 (by decide) (htg _ m_622) (fun _ h9 => h9) rfl d_M_brackets_197 ?_
        refine lv_iconst (v := 1) hx hb d_M_brackets_200 (by decide) ?_
        refine lv_iadd hx hb d_M_brackets_201 ?_
        refine va_put (ci := 12) (v := .int (v_o_at + 1)) (ty := .int) hx hb htg in_M t_M tok_M nm_M hown hK hP hD hS 0 rfl rfl 12 (by decide) (htg _ m_622) (fun _ h9 => h9) rfl (by decide +kernel) rfl rfl (Nat.le_of_ble_eq_true rfl) d_M_brackets_202 (fun H locs hP hD hS => ?_)
        have hP : va_P G vwCl [(a0, .inr (12, oM v_o_code v_o_typed v_o_rules (v_o_at + 1) v_o_read v_o_depth u18601 v_o_there v_o_ended v_o_mode v_o_kept v_o_came v_o_pending v_o_looked v_o_tokens v_o_oldest ad))] H := hP
        have hD : va_D A [(a0, .inr (12, oM v_o_code v_o_typed v_o_rules (v_o_at + 1) v_o_read v_o_depth u18601 v_o_there v_o_ended v_o_mode v_o_kept v_o_came v_o_pending v_o_looked v_o_tokens v_o_oldest ad))] := hD
        refine lv_iload_n hx hb d_M_brackets_205 rfl (lv_at hl 2 rfl) ?_
        exact hret _ ((v_o_at + 1), u18601) _ _ _ _ h (vp_nar_int _) (hP.sub [0] rfl) (hD.sub [0] (by decide) rfl) hS d_M_brackets_206
    · replace h := h.2 hc
      refine lv_bipush (v := 63) hx hb d_M_brackets_180 (by decide) ?_
      refine lv_iload_n hx hb d_M_brackets_182 rfl (lv_at hl 2 rfl) ?_
      refine lv_iconst (v := (-1)) hx hb d_M_brackets_183 (by decide) ?_
      refine lv_ixor hx hb d_M_brackets_184 ?_
      refine lv_iand hx hb d_M_brackets_185 ?_
      refine lv_istore_n (lv' := [(2, .int ((63 : Int32) &&& (l2 ^^^ (-1 : Int32)))), (0, .ref a0), (1, .int l1)]) hx hb d_M_brackets_186 rfl hl (by decide) rfl (fun ls hl => ?_)
      refine lv_iload_n hx hb d_M_brackets_187 rfl (lv_at hl 0 rfl) ?_
      refine lv_if_ne (tgt := 195) hx hb d_M_brackets_188 (by decide) (fun hc => ?_) (fun hc => ?_)
      · replace h := h.1 hc
        refine lv_aload_n hx hb d_M_brackets_195 rfl (lv_at hl 1 rfl) ?_
        refine lv_dup hx hb d_M_brackets_196 rfl ?_
        refine va_get (ci := 12) (v := .int v_o_at) hx hb htg in_M hown hK hP 0 rfl rfl 12 (by decide) (htg _ m_622) (fun _ h9 => h9) rfl d_M_brackets_197 ?_
        refine lv_iconst (v := 1) hx hb d_M_brackets_200 (by decide) ?_
        refine lv_iadd hx hb d_M_brackets_201 ?_
        refine va_put (ci := 12) (v := .int (v_o_at + 1)) (ty := .int) hx hb htg in_M t_M tok_M nm_M hown hK hP hD hS 0 rfl rfl 12 (by decide) (htg _ m_622) (fun _ h9 => h9) rfl (by decide +kernel) rfl rfl (Nat.le_of_ble_eq_true rfl) d_M_brackets_202 (fun H locs hP hD hS => ?_)
        have hP : va_P G vwCl [(a0, .inr (12, oM v_o_code v_o_typed v_o_rules (v_o_at + 1) v_o_read v_o_depth v_o_wrong v_o_there v_o_ended v_o_mode v_o_kept v_o_came v_o_pending v_o_looked v_o_tokens v_o_oldest ad))] H := hP
        have hD : va_D A [(a0, .inr (12, oM v_o_code v_o_typed v_o_rules (v_o_at + 1) v_o_read v_o_depth v_o_wrong v_o_there v_o_ended v_o_mode v_o_kept v_o_came v_o_pending v_o_looked v_o_tokens v_o_oldest ad))] := hD
        refine lv_iload_n hx hb d_M_brackets_205 rfl (lv_at hl 0 rfl) ?_
        exact hret _ ((v_o_at + 1), v_o_wrong) _ _ _ _ h (vp_nar_int _) (hP.sub [0] rfl) (hD.sub [0] (by decide) rfl) hS d_M_brackets_206
      · replace h := h.2 hc
        refine lv_aload_n hx hb d_M_brackets_191 rfl (lv_at hl 1 rfl) ?_
        have hPc : va_P G vwCl [(a0, .inr (12, oM v_o_code v_o_typed v_o_rules v_o_at v_o_read v_o_depth v_o_wrong v_o_there v_o_ended v_o_mode v_o_kept v_o_came v_o_pending v_o_looked v_o_tokens v_o_oldest ad))] _ := hP.sub [0] rfl
        have hDc : va_D A [(a0, .inr (12, oM v_o_code v_o_typed v_o_rules v_o_at v_o_read v_o_depth v_o_wrong v_o_there v_o_ended v_o_mode v_o_kept v_o_came v_o_pending v_o_looked v_o_tokens v_o_oldest ad))] := hD.sub [0] (by decide) rfl
        have hRc : va_P G vwCl [] _ := hP.sub [] rfl
        have hJc : gJ [(a0, .inr (12, oM v_o_code v_o_typed v_o_rules v_o_at v_o_read v_o_depth v_o_wrong v_o_there v_o_ended v_o_mode v_o_kept v_o_came v_o_pending v_o_looked v_o_tokens v_o_oldest ad))] [] := gJ_nil
        refine g_callv (wr := []) (va_runV (As := []) (rest := []) ⟨hx, hb, hml, hown, htg⟩ (k_M_refuse l G K a0 ad _ v_o_code v_o_typed v_o_rules v_o_at v_o_read v_o_depth v_o_wrong v_o_there v_o_ended v_o_mode v_o_kept v_o_came v_o_pending v_o_looked v_o_tokens v_o_oldest _ h) (cwV 0 htg (gGoodV m_712 m_713 m_901 m_13 m_714) rfl rfl rfl (by decide +kernel) ⟨(Nat.le_of_ble_eq_true rfl), (Nat.le_of_ble_eq_true rfl)⟩) (gW_preV (ci := 12) (q0 := 0) hK hN hPc hDc hRc hJc hPc rfl rfl) rfl rfl hl.1 rfl (lv_room (Nat.le_of_ble_eq_true rfl)) d_M_brackets_192 ⟨(Nat.le_of_ble_eq_true rfl), (Nat.le_of_ble_eq_true rfl)⟩) hP hD hS hA [0] [] rfl rfl (by decide) (by decide) (fun u H locs h hP hD hS => ?_)
        obtain ⟨u18603, rfl⟩ : ∃ z, z = u := ⟨_, rfl⟩
        try dsimp only at h
        have hP : va_P G vwCl [(a0, .inr (12, oM v_o_code v_o_typed v_o_rules v_o_at v_o_read v_o_depth u18603 v_o_there v_o_ended v_o_mode v_o_kept v_o_came v_o_pending v_o_looked v_o_tokens v_o_oldest ad))] H := hP
        have hD : va_D A [(a0, .inr (12, oM v_o_code v_o_typed v_o_rules v_o_at v_o_read v_o_depth u18603 v_o_there v_o_ended v_o_mode v_o_kept v_o_came v_o_pending v_o_looked v_o_tokens v_o_oldest ad))] := hD
        refine lv_aload_n hx hb d_M_brackets_195 rfl (lv_at hl 1 rfl) ?_
        refine lv_dup hx hb d_M_brackets_196 rfl ?_
        refine va_get (ci := 12) (v := .int v_o_at) hx hb htg in_M hown hK hP 0 rfl rfl 12 (by decide) (htg _ m_622) (fun _ h9 => h9) rfl d_M_brackets_197 ?_
        refine lv_iconst (v := 1) hx hb d_M_brackets_200 (by decide) ?_
        refine lv_iadd hx hb d_M_brackets_201 ?_
        refine va_put (ci := 12) (v := .int (v_o_at + 1)) (ty := .int) hx hb htg in_M t_M tok_M nm_M hown hK hP hD hS 0 rfl rfl 12 (by decide) (htg _ m_622) (fun _ h9 => h9) rfl (by decide +kernel) rfl rfl (Nat.le_of_ble_eq_true rfl) d_M_brackets_202 (fun H locs hP hD hS => ?_)
        have hP : va_P G vwCl [(a0, .inr (12, oM v_o_code v_o_typed v_o_rules (v_o_at + 1) v_o_read v_o_depth u18603 v_o_there v_o_ended v_o_mode v_o_kept v_o_came v_o_pending v_o_looked v_o_tokens v_o_oldest ad))] H := hP
        have hD : va_D A [(a0, .inr (12, oM v_o_code v_o_typed v_o_rules (v_o_at + 1) v_o_read v_o_depth u18603 v_o_there v_o_ended v_o_mode v_o_kept v_o_came v_o_pending v_o_looked v_o_tokens v_o_oldest ad))] := hD
        refine lv_iload_n hx hb d_M_brackets_205 rfl (lv_at hl 0 rfl) ?_
        exact hret _ ((v_o_at + 1), u18603) _ _ _ _ h (vp_nar_int _) (hP.sub [0] rfl) (hD.sub [0] (by decide) rfl) hS d_M_brackets_206
  have C_171 : ∀ (K_33 : Int32 → Int32 → Int32 → Int32 → Int32 → Prop) (hK_33 : ∀ (l1 : Int32) (l2 : Int32) (l3 : Int32) (v_o_at : Int32) (v_o_wrong : Int32) (H : Heap) (locs : List Loc), va_P G vwCl [(a0, .inr (12, oM v_o_code v_o_typed v_o_rules v_o_at v_o_read v_o_depth v_o_wrong v_o_there v_o_ended v_o_mode v_o_kept v_o_came v_o_pending v_o_looked v_o_tokens v_o_oldest ad))] H → va_D A [(a0, .inr (12, oM v_o_code v_o_typed v_o_rules v_o_at v_o_read v_o_depth v_o_wrong v_o_there v_o_ended v_o_mode v_o_kept v_o_came v_o_pending v_o_looked v_o_tokens v_o_oldest ad))] → va_S A s.heap H locs → ∀ (ls : Array Slot), lv_has ls 7 [(0, .ref a0), (1, .int l1), (2, .int l2), (3, .int l3)] → K_33 l1 l2 l3 v_o_at v_o_wrong → W p l e { frames := 1, cells := 0, slots := 0, locals := 20 } s m ([.ref a0] : List Value).toArray below meth c H locs 0 0 Q (F0 m 33 ls [])) (l1 : Int32) (l2 : Int32) (v_o_at : Int32) (v_o_wrong : Int32) (H : Heap) (locs : List Loc), va_P G vwCl [(a0, .inr (12, oM v_o_code v_o_typed v_o_rules v_o_at v_o_read v_o_depth v_o_wrong v_o_there v_o_ended v_o_mode v_o_kept v_o_came v_o_pending v_o_looked v_o_tokens v_o_oldest ad))] H → va_D A [(a0, .inr (12, oM v_o_code v_o_typed v_o_rules v_o_at v_o_read v_o_depth v_o_wrong v_o_there v_o_ended v_o_mode v_o_kept v_o_came v_o_pending v_o_looked v_o_tokens v_o_oldest ad))] → va_S A s.heap H locs → ∀ (ls : Array Slot), lv_has ls 7 [(0, .ref a0), (1, .int l1), (2, .int l2)] → p_M_brackets_171 post K_33 l1 l2 v_o_at v_o_wrong → W p l e { frames := 1, cells := 0, slots := 0, locals := 20 } s m ([.ref a0] : List Value).toArray below meth c H locs 0 0 Q (F0 m 171 ls []) := by
    intro K_33 hK_33 l1 l2 v_o_at v_o_wrong  H locs hP hD hS ls hl h
    refine lv_iconst (v := 1) hx hb d_M_brackets_171 (by decide) ?_
    refine lv_istore_n (lv' := [(3, .int 1), (0, .ref a0), (1, .int l1), (2, .int l2)]) hx hb d_M_brackets_172 rfl hl (by decide) rfl (fun ls hl => ?_)
    refine lv_goto (tgt := 33) hx hb d_M_brackets_173 (by decide) ?_
    exact hK_33 l1 l2 1 v_o_at v_o_wrong  _ _ (hP.sub [0] rfl) (hD.sub [0] (by decide) rfl) hS _ (lv_sub hl [1, 2, 3, 0] rfl) h
  have C_148 : ∀ (K_33 : Int32 → Int32 → Int32 → Int32 → Int32 → Prop) (hK_33 : ∀ (l1 : Int32) (l2 : Int32) (l3 : Int32) (v_o_at : Int32) (v_o_wrong : Int32) (H : Heap) (locs : List Loc), va_P G vwCl [(a0, .inr (12, oM v_o_code v_o_typed v_o_rules v_o_at v_o_read v_o_depth v_o_wrong v_o_there v_o_ended v_o_mode v_o_kept v_o_came v_o_pending v_o_looked v_o_tokens v_o_oldest ad))] H → va_D A [(a0, .inr (12, oM v_o_code v_o_typed v_o_rules v_o_at v_o_read v_o_depth v_o_wrong v_o_there v_o_ended v_o_mode v_o_kept v_o_came v_o_pending v_o_looked v_o_tokens v_o_oldest ad))] → va_S A s.heap H locs → ∀ (ls : Array Slot), lv_has ls 7 [(0, .ref a0), (1, .int l1), (2, .int l2), (3, .int l3)] → K_33 l1 l2 l3 v_o_at v_o_wrong → W p l e { frames := 1, cells := 0, slots := 0, locals := 20 } s m ([.ref a0] : List Value).toArray below meth c H locs 0 0 Q (F0 m 33 ls [])) (n : Nat) (l1 : Int32) (l2 : Int32) (l5 : Int32) (l6 : Int32) (v_o_at : Int32) (v_o_wrong : Int32) (H : Heap) (locs : List Loc), va_P G vwCl [(a0, .inr (12, oM v_o_code v_o_typed v_o_rules v_o_at v_o_read v_o_depth v_o_wrong v_o_there v_o_ended v_o_mode v_o_kept v_o_came v_o_pending v_o_looked v_o_tokens v_o_oldest ad))] H → va_D A [(a0, .inr (12, oM v_o_code v_o_typed v_o_rules v_o_at v_o_read v_o_depth v_o_wrong v_o_there v_o_ended v_o_mode v_o_kept v_o_came v_o_pending v_o_looked v_o_tokens v_o_oldest ad))] → va_S A s.heap H locs → ∀ (ls : Array Slot), lv_has ls 7 [(0, .ref a0), (1, .int l1), (2, .int l2), (5, .int l5), (6, .int l6)] → p_M_brackets_148 post K_33 n l1 l2 l5 l6 v_o_at v_o_wrong → W p l e { frames := 1, cells := 0, slots := 0, locals := 20 } s m ([.ref a0] : List Value).toArray below meth c H locs 0 0 Q (F0 m 148 ls []) := by
    intro K_33 hK_33
    intro n
    induction n with
    | zero =>
      intro l1 l2 l5 l6 v_o_at v_o_wrong  H locs hP hD hS ls hl h
      exact False.elim h
    | succ n ih =>
      intro l1 l2 l5 l6 v_o_at v_o_wrong  H locs hP hD hS ls hl h
      refine lv_iload hx hb d_M_brackets_148 (lv_at hl 4 rfl) ?_
      refine lv_iload hx hb d_M_brackets_150 (lv_at hl 3 rfl) ?_
      refine lv_icmp_gt (tgt := 171) hx hb d_M_brackets_152 (by decide) (fun hc => ?_) (fun hc => ?_)
      · replace h := h.1 hc
        exact C_171 _ hK_33 l1 l2 v_o_at v_o_wrong  _ _ (hP.sub [0] rfl) (hD.sub [0] (by decide) rfl) hS _ (lv_sub hl [0, 1, 2] rfl) h
      · replace h := h.2 hc
        refine lv_iload_n hx hb d_M_brackets_155 rfl (lv_at hl 2 rfl) ?_
        refine lv_iconst (v := 1) hx hb d_M_brackets_156 (by decide) ?_
        refine lv_iload hx hb d_M_brackets_157 (lv_at hl 4 rfl) ?_
        refine lv_bipush (v := 97) hx hb d_M_brackets_159 (by decide) ?_
        refine lv_isub hx hb d_M_brackets_161 ?_
        refine lv_ishl hx hb d_M_brackets_162 ?_
        refine lv_ior hx hb d_M_brackets_163 ?_
        refine lv_istore_n (lv' := [(2, .int (l2 ||| ((1 : Int32) <<< ((l6 - 97) &&& 31)))), (0, .ref a0), (1, .int l1), (5, .int l5), (6, .int l6)]) hx hb d_M_brackets_164 rfl hl (by decide) rfl (fun ls hl => ?_)
        refine lv_iinc (v := (l6 + 1)) (lv' := [(6, .int (l6 + 1)), (2, .int (l2 ||| ((1 : Int32) <<< ((l6 - 97) &&& 31)))), (0, .ref a0), (1, .int l1), (5, .int l5)]) hx hb d_M_brackets_165 hl (k := 4) rfl (by first | rfl | decide) (by decide) rfl (fun ls hl => ?_)
        refine lv_goto (tgt := 148) hx hb d_M_brackets_168 (by decide) ?_
        exact ih l1 (l2 ||| ((1 : Int32) <<< ((l6 - 97) &&& 31))) l5 (l6 + 1) v_o_at v_o_wrong  _ _ (hP.sub [0] rfl) (hD.sub [0] (by decide) rfl) hS _ (lv_sub hl [2, 3, 1, 4, 0] rfl) h
  have C_128 : ∀ (v_o_at : Int32) (v_o_wrong : Int32) (H : Heap) (locs : List Loc), va_P G vwCl [(a0, .inr (12, oM v_o_code v_o_typed v_o_rules v_o_at v_o_read v_o_depth v_o_wrong v_o_there v_o_ended v_o_mode v_o_kept v_o_came v_o_pending v_o_looked v_o_tokens v_o_oldest ad))] H → va_D A [(a0, .inr (12, oM v_o_code v_o_typed v_o_rules v_o_at v_o_read v_o_depth v_o_wrong v_o_there v_o_ended v_o_mode v_o_kept v_o_came v_o_pending v_o_looked v_o_tokens v_o_oldest ad))] → va_S A s.heap H locs → ∀ (ls : Array Slot), lv_has ls 7 [(0, .ref a0)] → p_M_brackets_128 post v_o_at v_o_wrong → W p l e { frames := 1, cells := 0, slots := 0, locals := 20 } s m ([.ref a0] : List Value).toArray below meth c H locs 0 0 Q (F0 m 128 ls []) := by
    intro  v_o_at v_o_wrong  H locs hP hD hS ls hl h
    refine lv_aload_n hx hb d_M_brackets_128 rfl (lv_at hl 0 rfl) ?_
    have hPc : va_P G vwCl [(a0, .inr (12, oM v_o_code v_o_typed v_o_rules v_o_at v_o_read v_o_depth v_o_wrong v_o_there v_o_ended v_o_mode v_o_kept v_o_came v_o_pending v_o_looked v_o_tokens v_o_oldest ad))] _ := hP.sub [0] rfl
    have hDc : va_D A [(a0, .inr (12, oM v_o_code v_o_typed v_o_rules v_o_at v_o_read v_o_depth v_o_wrong v_o_there v_o_ended v_o_mode v_o_kept v_o_came v_o_pending v_o_looked v_o_tokens v_o_oldest ad))] := hD.sub [0] (by decide) rfl
    have hRc : va_P G vwCl [] _ := hP.sub [] rfl
    have hJc : gJ [(a0, .inr (12, oM v_o_code v_o_typed v_o_rules v_o_at v_o_read v_o_depth v_o_wrong v_o_there v_o_ended v_o_mode v_o_kept v_o_came v_o_pending v_o_looked v_o_tokens v_o_oldest ad))] [] := gJ_nil
    refine g_callv (wr := []) (va_runV (As := []) (rest := []) ⟨hx, hb, hml, hown, htg⟩ (k_M_refuse l G K a0 ad _ v_o_code v_o_typed v_o_rules v_o_at v_o_read v_o_depth v_o_wrong v_o_there v_o_ended v_o_mode v_o_kept v_o_came v_o_pending v_o_looked v_o_tokens v_o_oldest _ h) (cwV 0 htg (gGoodV m_712 m_713 m_901 m_13 m_714) rfl rfl rfl (by decide +kernel) ⟨(Nat.le_of_ble_eq_true rfl), (Nat.le_of_ble_eq_true rfl)⟩) (gW_preV (ci := 12) (q0 := 0) hK hN hPc hDc hRc hJc hPc rfl rfl) rfl rfl hl.1 rfl (lv_room (Nat.le_of_ble_eq_true rfl)) d_M_brackets_129 ⟨(Nat.le_of_ble_eq_true rfl), (Nat.le_of_ble_eq_true rfl)⟩) hP hD hS hA [0] [] rfl rfl (by decide) (by decide) (fun u H locs h hP hD hS => ?_)
    obtain ⟨u13801, rfl⟩ : ∃ z, z = u := ⟨_, rfl⟩
    try dsimp only at h
    have hP : va_P G vwCl [(a0, .inr (12, oM v_o_code v_o_typed v_o_rules v_o_at v_o_read v_o_depth u13801 v_o_there v_o_ended v_o_mode v_o_kept v_o_came v_o_pending v_o_looked v_o_tokens v_o_oldest ad))] H := hP
    have hD : va_D A [(a0, .inr (12, oM v_o_code v_o_typed v_o_rules v_o_at v_o_read v_o_depth u13801 v_o_there v_o_ended v_o_mode v_o_kept v_o_came v_o_pending v_o_looked v_o_tokens v_o_oldest ad))] := hD
    refine lv_iconst (v := 0) hx hb d_M_brackets_132 (by decide) ?_
    exact hret _ (v_o_at, u13801) _ _ _ _ h (vp_nar_int _) (hP.sub [0] rfl) (hD.sub [0] (by decide) rfl) hS d_M_brackets_133
  have C_68 : ∀ (v_o_at : Int32) (v_o_wrong : Int32) (H : Heap) (locs : List Loc), va_P G vwCl [(a0, .inr (12, oM v_o_code v_o_typed v_o_rules v_o_at v_o_read v_o_depth v_o_wrong v_o_there v_o_ended v_o_mode v_o_kept v_o_came v_o_pending v_o_looked v_o_tokens v_o_oldest ad))] H → va_D A [(a0, .inr (12, oM v_o_code v_o_typed v_o_rules v_o_at v_o_read v_o_depth v_o_wrong v_o_there v_o_ended v_o_mode v_o_kept v_o_came v_o_pending v_o_looked v_o_tokens v_o_oldest ad))] → va_S A s.heap H locs → ∀ (ls : Array Slot), lv_has ls 7 [(0, .ref a0)] → p_M_brackets_68 post v_o_at v_o_wrong → W p l e { frames := 1, cells := 0, slots := 0, locals := 20 } s m ([.ref a0] : List Value).toArray below meth c H locs 0 0 Q (F0 m 68 ls []) := by
    intro  v_o_at v_o_wrong  H locs hP hD hS ls hl h
    refine lv_aload_n hx hb d_M_brackets_68 rfl (lv_at hl 0 rfl) ?_
    have hPc : va_P G vwCl [(a0, .inr (12, oM v_o_code v_o_typed v_o_rules v_o_at v_o_read v_o_depth v_o_wrong v_o_there v_o_ended v_o_mode v_o_kept v_o_came v_o_pending v_o_looked v_o_tokens v_o_oldest ad))] _ := hP.sub [0] rfl
    have hDc : va_D A [(a0, .inr (12, oM v_o_code v_o_typed v_o_rules v_o_at v_o_read v_o_depth v_o_wrong v_o_there v_o_ended v_o_mode v_o_kept v_o_came v_o_pending v_o_looked v_o_tokens v_o_oldest ad))] := hD.sub [0] (by decide) rfl
    have hRc : va_P G vwCl [] _ := hP.sub [] rfl
    have hJc : gJ [(a0, .inr (12, oM v_o_code v_o_typed v_o_rules v_o_at v_o_read v_o_depth v_o_wrong v_o_there v_o_ended v_o_mode v_o_kept v_o_came v_o_pending v_o_looked v_o_tokens v_o_oldest ad))] [] := gJ_nil
    refine g_callv (wr := []) (va_runV (As := []) (rest := []) ⟨hx, hb, hml, hown, htg⟩ (k_M_refuse l G K a0 ad _ v_o_code v_o_typed v_o_rules v_o_at v_o_read v_o_depth v_o_wrong v_o_there v_o_ended v_o_mode v_o_kept v_o_came v_o_pending v_o_looked v_o_tokens v_o_oldest _ h) (cwV 0 htg (gGoodV m_712 m_713 m_901 m_13 m_714) rfl rfl rfl (by decide +kernel) ⟨(Nat.le_of_ble_eq_true rfl), (Nat.le_of_ble_eq_true rfl)⟩) (gW_preV (ci := 12) (q0 := 0) hK hN hPc hDc hRc hJc hPc rfl rfl) rfl rfl hl.1 rfl (lv_room (Nat.le_of_ble_eq_true rfl)) d_M_brackets_69 ⟨(Nat.le_of_ble_eq_true rfl), (Nat.le_of_ble_eq_true rfl)⟩) hP hD hS hA [0] [] rfl rfl (by decide) (by decide) (fun u H locs h hP hD hS => ?_)
    obtain ⟨u7801, rfl⟩ : ∃ z, z = u := ⟨_, rfl⟩
    try dsimp only at h
    have hP : va_P G vwCl [(a0, .inr (12, oM v_o_code v_o_typed v_o_rules v_o_at v_o_read v_o_depth u7801 v_o_there v_o_ended v_o_mode v_o_kept v_o_came v_o_pending v_o_looked v_o_tokens v_o_oldest ad))] H := hP
    have hD : va_D A [(a0, .inr (12, oM v_o_code v_o_typed v_o_rules v_o_at v_o_read v_o_depth u7801 v_o_there v_o_ended v_o_mode v_o_kept v_o_came v_o_pending v_o_looked v_o_tokens v_o_oldest ad))] := hD
    refine lv_iconst (v := 0) hx hb d_M_brackets_72 (by decide) ?_
    exact hret _ (v_o_at, u7801) _ _ _ _ h (vp_nar_int _) (hP.sub [0] rfl) (hD.sub [0] (by decide) rfl) hS d_M_brackets_73
  have C_33 : ∀ (n : Nat) (l1 : Int32) (l2 : Int32) (l3 : Int32) (v_o_at : Int32) (v_o_wrong : Int32) (H : Heap) (locs : List Loc), va_P G vwCl [(a0, .inr (12, oM v_o_code v_o_typed v_o_rules v_o_at v_o_read v_o_depth v_o_wrong v_o_there v_o_ended v_o_mode v_o_kept v_o_came v_o_pending v_o_looked v_o_tokens v_o_oldest ad))] H → va_D A [(a0, .inr (12, oM v_o_code v_o_typed v_o_rules v_o_at v_o_read v_o_depth v_o_wrong v_o_there v_o_ended v_o_mode v_o_kept v_o_came v_o_pending v_o_looked v_o_tokens v_o_oldest ad))] → va_S A s.heap H locs → ∀ (ls : Array Slot), lv_has ls 7 [(0, .ref a0), (1, .int l1), (2, .int l2), (3, .int l3)] → p_M_brackets_33 v_o_typed f_o_tape post n l1 l2 l3 v_o_at v_o_wrong → W p l e { frames := 1, cells := 0, slots := 0, locals := 20 } s m ([.ref a0] : List Value).toArray below meth c H locs 0 0 Q (F0 m 33 ls []) := by
    intro n
    induction n with
    | zero =>
      intro l1 l2 l3 v_o_at v_o_wrong  H locs hP hD hS ls hl h
      exact False.elim h
    | succ n ih =>
      intro l1 l2 l3 v_o_at v_o_wrong  H locs hP hD hS ls hl h
      refine lv_aload_n hx hb d_M_brackets_33 rfl (lv_at hl 0 rfl) ?_
      refine va_get (ci := 12) (v := .int v_o_wrong) hx hb htg in_M hown hK hP 0 rfl rfl 15 (by decide) (htg _ m_625) (fun _ h9 => h9) rfl d_M_brackets_34 ?_
      refine lv_iconst (v := (-1)) hx hb d_M_brackets_37 (by decide) ?_
      refine lv_icmp_ne (tgt := 176) hx hb d_M_brackets_38 (by decide) (fun hc => ?_) (fun hc => ?_)
      · replace h := h.1 hc
        exact C_176 l1 l2 v_o_at v_o_wrong  _ _ (hP.sub [0] rfl) (hD.sub [0] (by decide) rfl) hS _ (lv_sub hl [0, 1, 2] rfl) h
      · replace h := h.2 hc
        refine lv_aload_n hx hb d_M_brackets_41 rfl (lv_at hl 0 rfl) ?_
        have hPc : va_P G vwCl [(a0, .inr (12, oM v_o_code v_o_typed v_o_rules v_o_at v_o_read v_o_depth v_o_wrong v_o_there v_o_ended v_o_mode v_o_kept v_o_came v_o_pending v_o_looked v_o_tokens v_o_oldest ad)), ((ad 1), .inl (K 0, 24, .inl f_o_tape))] _ := (hP.app (gR hR rN hS)).sub [0, 1] rfl
        refine vp_callSi (va_Run.run (va_runV (As := []) (rest := []) ⟨hx, hb, hml, hown, htg⟩ (k_M_here l G K a0 ad v_o_code v_o_typed v_o_rules v_o_at v_o_read v_o_depth v_o_wrong v_o_there v_o_ended v_o_mode v_o_kept v_o_came v_o_pending v_o_looked v_o_tokens v_o_oldest f_o_tape _ h) (cwV 0 htg (gGoodV m_691 m_692 m_887 m_13 m_693) rfl rfl rfl (by decide +kernel) ⟨(Nat.le_of_ble_eq_true rfl), (Nat.le_of_ble_eq_true rfl)⟩) (gS_preV (ci := 12) (q0 := 0) hK hN hPc rfl rfl) rfl rfl hl.1 rfl (lv_room (Nat.le_of_ble_eq_true rfl)) d_M_brackets_42 ⟨(Nat.le_of_ble_eq_true rfl), (Nat.le_of_ble_eq_true rfl)⟩)) (fun r4301 h => ?_)
        refine lv_bipush (v := 93) hx hb d_M_brackets_45 (by decide) ?_
        refine lv_icmp_ne (tgt := 54) hx hb d_M_brackets_47 (by decide) (fun hc => ?_) (fun hc => ?_)
        · replace h := h.1 hc
          refine lv_aload_n hx hb d_M_brackets_54 rfl (lv_at hl 0 rfl) ?_
          have hPc : va_P G vwCl [(a0, .inr (12, oM v_o_code v_o_typed v_o_rules v_o_at v_o_read v_o_depth v_o_wrong v_o_there v_o_ended v_o_mode v_o_kept v_o_came v_o_pending v_o_looked v_o_tokens v_o_oldest ad)), ((ad 1), .inl (K 0, 24, .inl f_o_tape))] _ := (hP.app (gR hR rN hS)).sub [0, 1] rfl
          refine vp_callSi (va_Run.run (va_runV (As := []) (rest := []) ⟨hx, hb, hml, hown, htg⟩ (k_M_here l G K a0 ad v_o_code v_o_typed v_o_rules v_o_at v_o_read v_o_depth v_o_wrong v_o_there v_o_ended v_o_mode v_o_kept v_o_came v_o_pending v_o_looked v_o_tokens v_o_oldest f_o_tape _ h) (cwV 0 htg (gGoodV m_691 m_692 m_887 m_13 m_693) rfl rfl rfl (by decide +kernel) ⟨(Nat.le_of_ble_eq_true rfl), (Nat.le_of_ble_eq_true rfl)⟩) (gS_preV (ci := 12) (q0 := 0) hK hN hPc rfl rfl) rfl rfl hl.1 rfl (lv_room (Nat.le_of_ble_eq_true rfl)) d_M_brackets_55 ⟨(Nat.le_of_ble_eq_true rfl), (Nat.le_of_ble_eq_true rfl)⟩)) (fun r4302 h => ?_)
          refine lv_istore (lv' := [(4, .int r4302), (0, .ref a0), (1, .int l1), (2, .int l2), (3, .int l3)]) hx hb d_M_brackets_58 hl (by decide) rfl (fun ls hl => ?_)
          refine lv_iload hx hb d_M_brackets_60 (lv_at hl 0 rfl) ?_
          have hPc : va_P G vwCl [] _ := hP.sub [] rfl
          refine vp_callSi (va_Run.run (va_runS (As := [.int r4302]) (rest := []) ⟨hx, hb, hml, hown, htg⟩ (k_M_isLetter l G K  r4302 _ h) (va_cwS 1 htg (gGoodS m_694 m_695 m_13 m_696) rfl rfl rfl (by decide +kernel) ⟨(Nat.le_of_ble_eq_true rfl), (Nat.le_of_ble_eq_true rfl)⟩) (gS_pre hK hN hPc) rfl rfl hl.1 rfl (lv_room (Nat.le_of_ble_eq_true rfl)) d_M_brackets_62 ⟨(Nat.le_of_ble_eq_true rfl), (Nat.le_of_ble_eq_true rfl)⟩)) (fun r4303 h => ?_)
          refine lv_if_ne (tgt := 74) hx hb d_M_brackets_65 (by decide) (fun hc => ?_) (fun hc => ?_)
          · replace h := h.1 hc
            refine lv_aload_n hx hb d_M_brackets_74 rfl (lv_at hl 1 rfl) ?_
            refine lv_dup hx hb d_M_brackets_75 rfl ?_
            refine va_get (ci := 12) (v := .int v_o_at) hx hb htg in_M hown hK hP 0 rfl rfl 12 (by decide) (htg _ m_622) (fun _ h9 => h9) rfl d_M_brackets_76 ?_
            refine lv_iconst (v := 1) hx hb d_M_brackets_79 (by decide) ?_
            refine lv_iadd hx hb d_M_brackets_80 ?_
            refine va_put (ci := 12) (v := .int (v_o_at + 1)) (ty := .int) hx hb htg in_M t_M tok_M nm_M hown hK hP hD hS 0 rfl rfl 12 (by decide) (htg _ m_622) (fun _ h9 => h9) rfl (by decide +kernel) rfl rfl (Nat.le_of_ble_eq_true rfl) d_M_brackets_81 (fun H locs hP hD hS => ?_)
            have hP : va_P G vwCl [(a0, .inr (12, oM v_o_code v_o_typed v_o_rules (v_o_at + 1) v_o_read v_o_depth v_o_wrong v_o_there v_o_ended v_o_mode v_o_kept v_o_came v_o_pending v_o_looked v_o_tokens v_o_oldest ad))] H := hP
            have hD : va_D A [(a0, .inr (12, oM v_o_code v_o_typed v_o_rules (v_o_at + 1) v_o_read v_o_depth v_o_wrong v_o_there v_o_ended v_o_mode v_o_kept v_o_came v_o_pending v_o_looked v_o_tokens v_o_oldest ad))] := hD
            refine lv_iload hx hb d_M_brackets_84 (lv_at hl 0 rfl) ?_
            refine lv_istore (lv' := [(5, .int r4302), (4, .int r4302), (0, .ref a0), (1, .int l1), (2, .int l2), (3, .int l3)]) hx hb d_M_brackets_86 hl (by decide) rfl (fun ls hl => ?_)
            refine lv_aload_n hx hb d_M_brackets_88 rfl (lv_at hl 2 rfl) ?_
            have hPc : va_P G vwCl [(a0, .inr (12, oM v_o_code v_o_typed v_o_rules (v_o_at + 1) v_o_read v_o_depth v_o_wrong v_o_there v_o_ended v_o_mode v_o_kept v_o_came v_o_pending v_o_looked v_o_tokens v_o_oldest ad)), ((ad 1), .inl (K 0, 24, .inl f_o_tape))] _ := (hP.app (gR hR rN hS)).sub [0, 1] rfl
            refine vp_callSi (va_Run.run (va_runV (As := []) (rest := []) ⟨hx, hb, hml, hown, htg⟩ (k_M_here l G K a0 ad v_o_code v_o_typed v_o_rules (v_o_at + 1) v_o_read v_o_depth v_o_wrong v_o_there v_o_ended v_o_mode v_o_kept v_o_came v_o_pending v_o_looked v_o_tokens v_o_oldest f_o_tape _ h) (cwV 0 htg (gGoodV m_691 m_692 m_887 m_13 m_693) rfl rfl rfl (by decide +kernel) ⟨(Nat.le_of_ble_eq_true rfl), (Nat.le_of_ble_eq_true rfl)⟩) (gS_preV (ci := 12) (q0 := 0) hK hN hPc rfl rfl) rfl rfl hl.1 rfl (lv_room (Nat.le_of_ble_eq_true rfl)) d_M_brackets_89 ⟨(Nat.le_of_ble_eq_true rfl), (Nat.le_of_ble_eq_true rfl)⟩)) (fun r4304 h => ?_)
            refine lv_bipush (v := 45) hx hb d_M_brackets_92 (by decide) ?_
            refine lv_icmp_ne (tgt := 144) hx hb d_M_brackets_94 (by decide) (fun hc => ?_) (fun hc => ?_)
            · replace h := h.1 hc
              refine lv_iload hx hb d_M_brackets_144 (lv_at hl 1 rfl) ?_
              refine lv_istore (lv' := [(6, .int r4302), (5, .int r4302), (4, .int r4302), (0, .ref a0), (1, .int l1), (2, .int l2), (3, .int l3)]) hx hb d_M_brackets_146 hl (by decide) rfl (fun ls hl => ?_)
              obtain ⟨k, h⟩ := h
              exact C_148 _ ih k l1 l2 r4302 r4302 (v_o_at + 1) v_o_wrong  _ _ (hP.sub [0] rfl) (hD.sub [0] (by decide) rfl) hS _ (lv_sub hl [3, 4, 5, 1, 0] rfl) h
            · replace h := h.2 hc
              refine lv_aload_n hx hb d_M_brackets_97 rfl (lv_at hl 2 rfl) ?_
              refine lv_dup hx hb d_M_brackets_98 rfl ?_
              refine va_get (ci := 12) (v := .int (v_o_at + 1)) hx hb htg in_M hown hK hP 0 rfl rfl 12 (by decide) (htg _ m_622) (fun _ h9 => h9) rfl d_M_brackets_99 ?_
              refine lv_iconst (v := 1) hx hb d_M_brackets_102 (by decide) ?_
              refine lv_iadd hx hb d_M_brackets_103 ?_
              refine va_put (ci := 12) (v := .int ((v_o_at + 1) + 1)) (ty := .int) hx hb htg in_M t_M tok_M nm_M hown hK hP hD hS 0 rfl rfl 12 (by decide) (htg _ m_622) (fun _ h9 => h9) rfl (by decide +kernel) rfl rfl (Nat.le_of_ble_eq_true rfl) d_M_brackets_104 (fun H locs hP hD hS => ?_)
              have hP : va_P G vwCl [(a0, .inr (12, oM v_o_code v_o_typed v_o_rules ((v_o_at + 1) + 1) v_o_read v_o_depth v_o_wrong v_o_there v_o_ended v_o_mode v_o_kept v_o_came v_o_pending v_o_looked v_o_tokens v_o_oldest ad))] H := hP
              have hD : va_D A [(a0, .inr (12, oM v_o_code v_o_typed v_o_rules ((v_o_at + 1) + 1) v_o_read v_o_depth v_o_wrong v_o_there v_o_ended v_o_mode v_o_kept v_o_came v_o_pending v_o_looked v_o_tokens v_o_oldest ad))] := hD
              refine lv_aload_n hx hb d_M_brackets_107 rfl (lv_at hl 2 rfl) ?_
              have hPc : va_P G vwCl [(a0, .inr (12, oM v_o_code v_o_typed v_o_rules ((v_o_at + 1) + 1) v_o_read v_o_depth v_o_wrong v_o_there v_o_ended v_o_mode v_o_kept v_o_came v_o_pending v_o_looked v_o_tokens v_o_oldest ad)), ((ad 1), .inl (K 0, 24, .inl f_o_tape))] _ := (hP.app (gR hR rN hS)).sub [0, 1] rfl
              refine vp_callSi (va_Run.run (va_runV (As := []) (rest := []) ⟨hx, hb, hml, hown, htg⟩ (k_M_here l G K a0 ad v_o_code v_o_typed v_o_rules ((v_o_at + 1) + 1) v_o_read v_o_depth v_o_wrong v_o_there v_o_ended v_o_mode v_o_kept v_o_came v_o_pending v_o_looked v_o_tokens v_o_oldest f_o_tape _ h) (cwV 0 htg (gGoodV m_691 m_692 m_887 m_13 m_693) rfl rfl rfl (by decide +kernel) ⟨(Nat.le_of_ble_eq_true rfl), (Nat.le_of_ble_eq_true rfl)⟩) (gS_preV (ci := 12) (q0 := 0) hK hN hPc rfl rfl) rfl rfl hl.1 rfl (lv_room (Nat.le_of_ble_eq_true rfl)) d_M_brackets_108 ⟨(Nat.le_of_ble_eq_true rfl), (Nat.le_of_ble_eq_true rfl)⟩)) (fun r4305 h => ?_)
              refine lv_istore (lv' := [(5, .int r4305), (4, .int r4302), (0, .ref a0), (1, .int l1), (2, .int l2), (3, .int l3)]) hx hb d_M_brackets_111 hl (by decide) rfl (fun ls hl => ?_)
              refine lv_iload hx hb d_M_brackets_113 (lv_at hl 0 rfl) ?_
              have hPc : va_P G vwCl [] _ := hP.sub [] rfl
              refine vp_callSi (va_Run.run (va_runS (As := [.int r4305]) (rest := []) ⟨hx, hb, hml, hown, htg⟩ (k_M_isLetter l G K  r4305 _ h) (va_cwS 1 htg (gGoodS m_694 m_695 m_13 m_696) rfl rfl rfl (by decide +kernel) ⟨(Nat.le_of_ble_eq_true rfl), (Nat.le_of_ble_eq_true rfl)⟩) (gS_pre hK hN hPc) rfl rfl hl.1 rfl (lv_room (Nat.le_of_ble_eq_true rfl)) d_M_brackets_115 ⟨(Nat.le_of_ble_eq_true rfl), (Nat.le_of_ble_eq_true rfl)⟩)) (fun r4306 h => ?_)
              refine lv_if_eq (tgt := 128) hx hb d_M_brackets_118 (by decide) (fun hc => ?_) (fun hc => ?_)
              · replace h := h.1 hc
                exact C_128 ((v_o_at + 1) + 1) v_o_wrong  _ _ (hP.sub [0] rfl) (hD.sub [0] (by decide) rfl) hS _ (lv_sub hl [2] rfl) h
              · replace h := h.2 hc
                refine lv_iload hx hb d_M_brackets_121 (lv_at hl 0 rfl) ?_
                refine lv_iload hx hb d_M_brackets_123 (lv_at hl 1 rfl) ?_
                refine lv_icmp_ge (tgt := 134) hx hb d_M_brackets_125 (by decide) (fun hc => ?_) (fun hc => ?_)
                · replace h := h.1 hc
                  refine lv_aload_n hx hb d_M_brackets_134 rfl (lv_at hl 2 rfl) ?_
                  refine lv_dup hx hb d_M_brackets_135 rfl ?_
                  refine va_get (ci := 12) (v := .int ((v_o_at + 1) + 1)) hx hb htg in_M hown hK hP 0 rfl rfl 12 (by decide) (htg _ m_622) (fun _ h9 => h9) rfl d_M_brackets_136 ?_
                  refine lv_iconst (v := 1) hx hb d_M_brackets_139 (by decide) ?_
                  refine lv_iadd hx hb d_M_brackets_140 ?_
                  refine va_put (ci := 12) (v := .int (((v_o_at + 1) + 1) + 1)) (ty := .int) hx hb htg in_M t_M tok_M nm_M hown hK hP hD hS 0 rfl rfl 12 (by decide) (htg _ m_622) (fun _ h9 => h9) rfl (by decide +kernel) rfl rfl (Nat.le_of_ble_eq_true rfl) d_M_brackets_141 (fun H locs hP hD hS => ?_)
                  have hP : va_P G vwCl [(a0, .inr (12, oM v_o_code v_o_typed v_o_rules (((v_o_at + 1) + 1) + 1) v_o_read v_o_depth v_o_wrong v_o_there v_o_ended v_o_mode v_o_kept v_o_came v_o_pending v_o_looked v_o_tokens v_o_oldest ad))] H := hP
                  have hD : va_D A [(a0, .inr (12, oM v_o_code v_o_typed v_o_rules (((v_o_at + 1) + 1) + 1) v_o_read v_o_depth v_o_wrong v_o_there v_o_ended v_o_mode v_o_kept v_o_came v_o_pending v_o_looked v_o_tokens v_o_oldest ad))] := hD
                  refine lv_iload hx hb d_M_brackets_144 (lv_at hl 1 rfl) ?_
                  refine lv_istore (lv' := [(6, .int r4302), (5, .int r4305), (4, .int r4302), (0, .ref a0), (1, .int l1), (2, .int l2), (3, .int l3)]) hx hb d_M_brackets_146 hl (by decide) rfl (fun ls hl => ?_)
                  obtain ⟨k, h⟩ := h
                  exact C_148 _ ih k l1 l2 r4305 r4302 (((v_o_at + 1) + 1) + 1) v_o_wrong  _ _ (hP.sub [0] rfl) (hD.sub [0] (by decide) rfl) hS _ (lv_sub hl [3, 4, 5, 1, 0] rfl) h
                · replace h := h.2 hc
                  exact C_128 ((v_o_at + 1) + 1) v_o_wrong  _ _ (hP.sub [0] rfl) (hD.sub [0] (by decide) rfl) hS _ (lv_sub hl [2] rfl) h
          · replace h := h.2 hc
            exact C_68 v_o_at v_o_wrong  _ _ (hP.sub [0] rfl) (hD.sub [0] (by decide) rfl) hS _ (lv_sub hl [1] rfl) h
        · replace h := h.2 hc
          refine lv_iload_n hx hb d_M_brackets_50 rfl (lv_at hl 3 rfl) ?_
          refine lv_if_ne (tgt := 176) hx hb d_M_brackets_51 (by decide) (fun hc => ?_) (fun hc => ?_)
          · replace h := h.1 hc
            exact C_176 l1 l2 v_o_at v_o_wrong  _ _ (hP.sub [0] rfl) (hD.sub [0] (by decide) rfl) hS _ (lv_sub hl [0, 1, 2] rfl) h
          · replace h := h.2 hc
            refine lv_aload_n hx hb d_M_brackets_54 rfl (lv_at hl 0 rfl) ?_
            have hPc : va_P G vwCl [(a0, .inr (12, oM v_o_code v_o_typed v_o_rules v_o_at v_o_read v_o_depth v_o_wrong v_o_there v_o_ended v_o_mode v_o_kept v_o_came v_o_pending v_o_looked v_o_tokens v_o_oldest ad)), ((ad 1), .inl (K 0, 24, .inl f_o_tape))] _ := (hP.app (gR hR rN hS)).sub [0, 1] rfl
            refine vp_callSi (va_Run.run (va_runV (As := []) (rest := []) ⟨hx, hb, hml, hown, htg⟩ (k_M_here l G K a0 ad v_o_code v_o_typed v_o_rules v_o_at v_o_read v_o_depth v_o_wrong v_o_there v_o_ended v_o_mode v_o_kept v_o_came v_o_pending v_o_looked v_o_tokens v_o_oldest f_o_tape _ h) (cwV 0 htg (gGoodV m_691 m_692 m_887 m_13 m_693) rfl rfl rfl (by decide +kernel) ⟨(Nat.le_of_ble_eq_true rfl), (Nat.le_of_ble_eq_true rfl)⟩) (gS_preV (ci := 12) (q0 := 0) hK hN hPc rfl rfl) rfl rfl hl.1 rfl (lv_room (Nat.le_of_ble_eq_true rfl)) d_M_brackets_55 ⟨(Nat.le_of_ble_eq_true rfl), (Nat.le_of_ble_eq_true rfl)⟩)) (fun r4307 h => ?_)
            refine lv_istore (lv' := [(4, .int r4307), (0, .ref a0), (1, .int l1), (2, .int l2), (3, .int l3)]) hx hb d_M_brackets_58 hl (by decide) rfl (fun ls hl => ?_)
            refine lv_iload hx hb d_M_brackets_60 (lv_at hl 0 rfl) ?_
            have hPc : va_P G vwCl [] _ := hP.sub [] rfl
            refine vp_callSi (va_Run.run (va_runS (As := [.int r4307]) (rest := []) ⟨hx, hb, hml, hown, htg⟩ (k_M_isLetter l G K  r4307 _ h) (va_cwS 1 htg (gGoodS m_694 m_695 m_13 m_696) rfl rfl rfl (by decide +kernel) ⟨(Nat.le_of_ble_eq_true rfl), (Nat.le_of_ble_eq_true rfl)⟩) (gS_pre hK hN hPc) rfl rfl hl.1 rfl (lv_room (Nat.le_of_ble_eq_true rfl)) d_M_brackets_62 ⟨(Nat.le_of_ble_eq_true rfl), (Nat.le_of_ble_eq_true rfl)⟩)) (fun r4308 h => ?_)
            refine lv_if_ne (tgt := 74) hx hb d_M_brackets_65 (by decide) (fun hc => ?_) (fun hc => ?_)
            · replace h := h.1 hc
              refine lv_aload_n hx hb d_M_brackets_74 rfl (lv_at hl 1 rfl) ?_
              refine lv_dup hx hb d_M_brackets_75 rfl ?_
              refine va_get (ci := 12) (v := .int v_o_at) hx hb htg in_M hown hK hP 0 rfl rfl 12 (by decide) (htg _ m_622) (fun _ h9 => h9) rfl d_M_brackets_76 ?_
              refine lv_iconst (v := 1) hx hb d_M_brackets_79 (by decide) ?_
              refine lv_iadd hx hb d_M_brackets_80 ?_
              refine va_put (ci := 12) (v := .int (v_o_at + 1)) (ty := .int) hx hb htg in_M t_M tok_M nm_M hown hK hP hD hS 0 rfl rfl 12 (by decide) (htg _ m_622) (fun _ h9 => h9) rfl (by decide +kernel) rfl rfl (Nat.le_of_ble_eq_true rfl) d_M_brackets_81 (fun H locs hP hD hS => ?_)
              have hP : va_P G vwCl [(a0, .inr (12, oM v_o_code v_o_typed v_o_rules (v_o_at + 1) v_o_read v_o_depth v_o_wrong v_o_there v_o_ended v_o_mode v_o_kept v_o_came v_o_pending v_o_looked v_o_tokens v_o_oldest ad))] H := hP
              have hD : va_D A [(a0, .inr (12, oM v_o_code v_o_typed v_o_rules (v_o_at + 1) v_o_read v_o_depth v_o_wrong v_o_there v_o_ended v_o_mode v_o_kept v_o_came v_o_pending v_o_looked v_o_tokens v_o_oldest ad))] := hD
              refine lv_iload hx hb d_M_brackets_84 (lv_at hl 0 rfl) ?_
              refine lv_istore (lv' := [(5, .int r4307), (4, .int r4307), (0, .ref a0), (1, .int l1), (2, .int l2), (3, .int l3)]) hx hb d_M_brackets_86 hl (by decide) rfl (fun ls hl => ?_)
              refine lv_aload_n hx hb d_M_brackets_88 rfl (lv_at hl 2 rfl) ?_
              have hPc : va_P G vwCl [(a0, .inr (12, oM v_o_code v_o_typed v_o_rules (v_o_at + 1) v_o_read v_o_depth v_o_wrong v_o_there v_o_ended v_o_mode v_o_kept v_o_came v_o_pending v_o_looked v_o_tokens v_o_oldest ad)), ((ad 1), .inl (K 0, 24, .inl f_o_tape))] _ := (hP.app (gR hR rN hS)).sub [0, 1] rfl
              refine vp_callSi (va_Run.run (va_runV (As := []) (rest := []) ⟨hx, hb, hml, hown, htg⟩ (k_M_here l G K a0 ad v_o_code v_o_typed v_o_rules (v_o_at + 1) v_o_read v_o_depth v_o_wrong v_o_there v_o_ended v_o_mode v_o_kept v_o_came v_o_pending v_o_looked v_o_tokens v_o_oldest f_o_tape _ h) (cwV 0 htg (gGoodV m_691 m_692 m_887 m_13 m_693) rfl rfl rfl (by decide +kernel) ⟨(Nat.le_of_ble_eq_true rfl), (Nat.le_of_ble_eq_true rfl)⟩) (gS_preV (ci := 12) (q0 := 0) hK hN hPc rfl rfl) rfl rfl hl.1 rfl (lv_room (Nat.le_of_ble_eq_true rfl)) d_M_brackets_89 ⟨(Nat.le_of_ble_eq_true rfl), (Nat.le_of_ble_eq_true rfl)⟩)) (fun r4309 h => ?_)
              refine lv_bipush (v := 45) hx hb d_M_brackets_92 (by decide) ?_
              refine lv_icmp_ne (tgt := 144) hx hb d_M_brackets_94 (by decide) (fun hc => ?_) (fun hc => ?_)
              · replace h := h.1 hc
                refine lv_iload hx hb d_M_brackets_144 (lv_at hl 1 rfl) ?_
                refine lv_istore (lv' := [(6, .int r4307), (5, .int r4307), (4, .int r4307), (0, .ref a0), (1, .int l1), (2, .int l2), (3, .int l3)]) hx hb d_M_brackets_146 hl (by decide) rfl (fun ls hl => ?_)
                obtain ⟨k, h⟩ := h
                exact C_148 _ ih k l1 l2 r4307 r4307 (v_o_at + 1) v_o_wrong  _ _ (hP.sub [0] rfl) (hD.sub [0] (by decide) rfl) hS _ (lv_sub hl [3, 4, 5, 1, 0] rfl) h
              · replace h := h.2 hc
                refine lv_aload_n hx hb d_M_brackets_97 rfl (lv_at hl 2 rfl) ?_
                refine lv_dup hx hb d_M_brackets_98 rfl ?_
                refine va_get (ci := 12) (v := .int (v_o_at + 1)) hx hb htg in_M hown hK hP 0 rfl rfl 12 (by decide) (htg _ m_622) (fun _ h9 => h9) rfl d_M_brackets_99 ?_
                refine lv_iconst (v := 1) hx hb d_M_brackets_102 (by decide) ?_
                refine lv_iadd hx hb d_M_brackets_103 ?_
                refine va_put (ci := 12) (v := .int ((v_o_at + 1) + 1)) (ty := .int) hx hb htg in_M t_M tok_M nm_M hown hK hP hD hS 0 rfl rfl 12 (by decide) (htg _ m_622) (fun _ h9 => h9) rfl (by decide +kernel) rfl rfl (Nat.le_of_ble_eq_true rfl) d_M_brackets_104 (fun H locs hP hD hS => ?_)
                have hP : va_P G vwCl [(a0, .inr (12, oM v_o_code v_o_typed v_o_rules ((v_o_at + 1) + 1) v_o_read v_o_depth v_o_wrong v_o_there v_o_ended v_o_mode v_o_kept v_o_came v_o_pending v_o_looked v_o_tokens v_o_oldest ad))] H := hP
                have hD : va_D A [(a0, .inr (12, oM v_o_code v_o_typed v_o_rules ((v_o_at + 1) + 1) v_o_read v_o_depth v_o_wrong v_o_there v_o_ended v_o_mode v_o_kept v_o_came v_o_pending v_o_looked v_o_tokens v_o_oldest ad))] := hD
                refine lv_aload_n hx hb d_M_brackets_107 rfl (lv_at hl 2 rfl) ?_
                have hPc : va_P G vwCl [(a0, .inr (12, oM v_o_code v_o_typed v_o_rules ((v_o_at + 1) + 1) v_o_read v_o_depth v_o_wrong v_o_there v_o_ended v_o_mode v_o_kept v_o_came v_o_pending v_o_looked v_o_tokens v_o_oldest ad)), ((ad 1), .inl (K 0, 24, .inl f_o_tape))] _ := (hP.app (gR hR rN hS)).sub [0, 1] rfl
                refine vp_callSi (va_Run.run (va_runV (As := []) (rest := []) ⟨hx, hb, hml, hown, htg⟩ (k_M_here l G K a0 ad v_o_code v_o_typed v_o_rules ((v_o_at + 1) + 1) v_o_read v_o_depth v_o_wrong v_o_there v_o_ended v_o_mode v_o_kept v_o_came v_o_pending v_o_looked v_o_tokens v_o_oldest f_o_tape _ h) (cwV 0 htg (gGoodV m_691 m_692 m_887 m_13 m_693) rfl rfl rfl (by decide +kernel) ⟨(Nat.le_of_ble_eq_true rfl), (Nat.le_of_ble_eq_true rfl)⟩) (gS_preV (ci := 12) (q0 := 0) hK hN hPc rfl rfl) rfl rfl hl.1 rfl (lv_room (Nat.le_of_ble_eq_true rfl)) d_M_brackets_108 ⟨(Nat.le_of_ble_eq_true rfl), (Nat.le_of_ble_eq_true rfl)⟩)) (fun r4310 h => ?_)
                refine lv_istore (lv' := [(5, .int r4310), (4, .int r4307), (0, .ref a0), (1, .int l1), (2, .int l2), (3, .int l3)]) hx hb d_M_brackets_111 hl (by decide) rfl (fun ls hl => ?_)
                refine lv_iload hx hb d_M_brackets_113 (lv_at hl 0 rfl) ?_
                have hPc : va_P G vwCl [] _ := hP.sub [] rfl
                refine vp_callSi (va_Run.run (va_runS (As := [.int r4310]) (rest := []) ⟨hx, hb, hml, hown, htg⟩ (k_M_isLetter l G K  r4310 _ h) (va_cwS 1 htg (gGoodS m_694 m_695 m_13 m_696) rfl rfl rfl (by decide +kernel) ⟨(Nat.le_of_ble_eq_true rfl), (Nat.le_of_ble_eq_true rfl)⟩) (gS_pre hK hN hPc) rfl rfl hl.1 rfl (lv_room (Nat.le_of_ble_eq_true rfl)) d_M_brackets_115 ⟨(Nat.le_of_ble_eq_true rfl), (Nat.le_of_ble_eq_true rfl)⟩)) (fun r4311 h => ?_)
                refine lv_if_eq (tgt := 128) hx hb d_M_brackets_118 (by decide) (fun hc => ?_) (fun hc => ?_)
                · replace h := h.1 hc
                  exact C_128 ((v_o_at + 1) + 1) v_o_wrong  _ _ (hP.sub [0] rfl) (hD.sub [0] (by decide) rfl) hS _ (lv_sub hl [2] rfl) h
                · replace h := h.2 hc
                  refine lv_iload hx hb d_M_brackets_121 (lv_at hl 0 rfl) ?_
                  refine lv_iload hx hb d_M_brackets_123 (lv_at hl 1 rfl) ?_
                  refine lv_icmp_ge (tgt := 134) hx hb d_M_brackets_125 (by decide) (fun hc => ?_) (fun hc => ?_)
                  · replace h := h.1 hc
                    refine lv_aload_n hx hb d_M_brackets_134 rfl (lv_at hl 2 rfl) ?_
                    refine lv_dup hx hb d_M_brackets_135 rfl ?_
                    refine va_get (ci := 12) (v := .int ((v_o_at + 1) + 1)) hx hb htg in_M hown hK hP 0 rfl rfl 12 (by decide) (htg _ m_622) (fun _ h9 => h9) rfl d_M_brackets_136 ?_
                    refine lv_iconst (v := 1) hx hb d_M_brackets_139 (by decide) ?_
                    refine lv_iadd hx hb d_M_brackets_140 ?_
                    refine va_put (ci := 12) (v := .int (((v_o_at + 1) + 1) + 1)) (ty := .int) hx hb htg in_M t_M tok_M nm_M hown hK hP hD hS 0 rfl rfl 12 (by decide) (htg _ m_622) (fun _ h9 => h9) rfl (by decide +kernel) rfl rfl (Nat.le_of_ble_eq_true rfl) d_M_brackets_141 (fun H locs hP hD hS => ?_)
                    have hP : va_P G vwCl [(a0, .inr (12, oM v_o_code v_o_typed v_o_rules (((v_o_at + 1) + 1) + 1) v_o_read v_o_depth v_o_wrong v_o_there v_o_ended v_o_mode v_o_kept v_o_came v_o_pending v_o_looked v_o_tokens v_o_oldest ad))] H := hP
                    have hD : va_D A [(a0, .inr (12, oM v_o_code v_o_typed v_o_rules (((v_o_at + 1) + 1) + 1) v_o_read v_o_depth v_o_wrong v_o_there v_o_ended v_o_mode v_o_kept v_o_came v_o_pending v_o_looked v_o_tokens v_o_oldest ad))] := hD
                    refine lv_iload hx hb d_M_brackets_144 (lv_at hl 1 rfl) ?_
                    refine lv_istore (lv' := [(6, .int r4307), (5, .int r4310), (4, .int r4307), (0, .ref a0), (1, .int l1), (2, .int l2), (3, .int l3)]) hx hb d_M_brackets_146 hl (by decide) rfl (fun ls hl => ?_)
                    obtain ⟨k, h⟩ := h
                    exact C_148 _ ih k l1 l2 r4310 r4307 (((v_o_at + 1) + 1) + 1) v_o_wrong  _ _ (hP.sub [0] rfl) (hD.sub [0] (by decide) rfl) hS _ (lv_sub hl [3, 4, 5, 1, 0] rfl) h
                  · replace h := h.2 hc
                    exact C_128 ((v_o_at + 1) + 1) v_o_wrong  _ _ (hP.sub [0] rfl) (hD.sub [0] (by decide) rfl) hS _ (lv_sub hl [2] rfl) h
            · replace h := h.2 hc
              exact C_68 v_o_at v_o_wrong  _ _ (hP.sub [0] rfl) (hD.sub [0] (by decide) rfl) hS _ (lv_sub hl [1] rfl) h
  refine lv_aload_n hx hb d_M_brackets_0 rfl (lv_at hl 0 rfl) ?_
  have hPc : va_P G vwCl [(a0, .inr (12, oM v_o_code v_o_typed v_o_rules v_o_at v_o_read v_o_depth v_o_wrong v_o_there v_o_ended v_o_mode v_o_kept v_o_came v_o_pending v_o_looked v_o_tokens v_o_oldest ad)), ((ad 1), .inl (K 0, 24, .inl f_o_tape))] _ := (hP.app (gR hR rN hS)).sub [0, 1] rfl
  refine vp_callSi (va_Run.run (va_runV (As := []) (rest := []) ⟨hx, hb, hml, hown, htg⟩ (k_M_here l G K a0 ad v_o_code v_o_typed v_o_rules v_o_at v_o_read v_o_depth v_o_wrong v_o_there v_o_ended v_o_mode v_o_kept v_o_came v_o_pending v_o_looked v_o_tokens v_o_oldest f_o_tape _ h) (cwV 0 htg (gGoodV m_691 m_692 m_887 m_13 m_693) rfl rfl rfl (by decide +kernel) ⟨(Nat.le_of_ble_eq_true rfl), (Nat.le_of_ble_eq_true rfl)⟩) (gS_preV (ci := 12) (q0 := 0) hK hN hPc rfl rfl) rfl rfl hl.1 rfl (lv_room (Nat.le_of_ble_eq_true rfl)) d_M_brackets_1 ⟨(Nat.le_of_ble_eq_true rfl), (Nat.le_of_ble_eq_true rfl)⟩)) (fun r1 h => ?_)
  refine lv_bipush (v := 94) hx hb d_M_brackets_4 (by decide) ?_
  refine lv_icmp_ne (tgt := 13) hx hb d_M_brackets_6 (by decide) (fun hc => ?_) (fun hc => ?_)
  · replace h := h.1 hc
    refine lv_iconst (v := 0) hx hb d_M_brackets_13 (by decide) ?_
    refine lv_istore_n (lv' := [(1, .int 0), (0, .ref a0)]) hx hb d_M_brackets_14 rfl hl (by decide) rfl (fun ls hl => ?_)
    refine lv_iload_n hx hb d_M_brackets_15 rfl (lv_at hl 0 rfl) ?_
    refine lv_if_eq (tgt := 29) hx hb d_M_brackets_16 (by decide) (fun _ => ?_) (fun hc => absurd (by decide) hc)
    refine lv_iconst (v := 0) hx hb d_M_brackets_29 (by decide) ?_
    refine lv_istore_n (lv' := [(2, .int 0), (1, .int 0), (0, .ref a0)]) hx hb d_M_brackets_30 rfl hl (by decide) rfl (fun ls hl => ?_)
    refine lv_iconst (v := 0) hx hb d_M_brackets_31 (by decide) ?_
    refine lv_istore_n (lv' := [(3, .int 0), (2, .int 0), (1, .int 0), (0, .ref a0)]) hx hb d_M_brackets_32 rfl hl (by decide) rfl (fun ls hl => ?_)
    obtain ⟨k, h⟩ := h
    exact C_33 k 0 0 0 v_o_at v_o_wrong  _ _ (hP.sub [0] rfl) (hD.sub [0] (by decide) rfl) hS _ (lv_sub hl [3, 2, 1, 0] rfl) h
  · replace h := h.2 hc
    refine lv_iconst (v := 1) hx hb d_M_brackets_9 (by decide) ?_
    refine lv_goto (tgt := 14) hx hb d_M_brackets_10 (by decide) ?_
    refine lv_istore_n (lv' := [(1, .int 1), (0, .ref a0)]) hx hb d_M_brackets_14 rfl hl (by decide) rfl (fun ls hl => ?_)
    refine lv_iload_n hx hb d_M_brackets_15 rfl (lv_at hl 0 rfl) ?_
    refine lv_if_eq (tgt := 29) hx hb d_M_brackets_16 (by decide) (fun hc => absurd hc (by decide)) (fun _ => ?_)
    refine lv_aload_n hx hb d_M_brackets_19 rfl (lv_at hl 1 rfl) ?_
    refine lv_dup hx hb d_M_brackets_20 rfl ?_
    refine va_get (ci := 12) (v := .int v_o_at) hx hb htg in_M hown hK hP 0 rfl rfl 12 (by decide) (htg _ m_622) (fun _ h9 => h9) rfl d_M_brackets_21 ?_
    refine lv_iconst (v := 1) hx hb d_M_brackets_24 (by decide) ?_
    refine lv_iadd hx hb d_M_brackets_25 ?_
    refine va_put (ci := 12) (v := .int (v_o_at + 1)) (ty := .int) hx hb htg in_M t_M tok_M nm_M hown hK hP hD hS 0 rfl rfl 12 (by decide) (htg _ m_622) (fun _ h9 => h9) rfl (by decide +kernel) rfl rfl (Nat.le_of_ble_eq_true rfl) d_M_brackets_26 (fun H locs hP hD hS => ?_)
    have hP : va_P G vwCl [(a0, .inr (12, oM v_o_code v_o_typed v_o_rules (v_o_at + 1) v_o_read v_o_depth v_o_wrong v_o_there v_o_ended v_o_mode v_o_kept v_o_came v_o_pending v_o_looked v_o_tokens v_o_oldest ad))] H := hP
    have hD : va_D A [(a0, .inr (12, oM v_o_code v_o_typed v_o_rules (v_o_at + 1) v_o_read v_o_depth v_o_wrong v_o_there v_o_ended v_o_mode v_o_kept v_o_came v_o_pending v_o_looked v_o_tokens v_o_oldest ad))] := hD
    refine lv_iconst (v := 0) hx hb d_M_brackets_29 (by decide) ?_
    refine lv_istore_n (lv' := [(2, .int 0), (1, .int 1), (0, .ref a0)]) hx hb d_M_brackets_30 rfl hl (by decide) rfl (fun ls hl => ?_)
    refine lv_iconst (v := 0) hx hb d_M_brackets_31 (by decide) ?_
    refine lv_istore_n (lv' := [(3, .int 0), (2, .int 0), (1, .int 1), (0, .ref a0)]) hx hb d_M_brackets_32 rfl hl (by decide) rfl (fun ls hl => ?_)
    obtain ⟨k, h⟩ := h
    exact C_33 k 1 0 0 (v_o_at + 1) v_o_wrong  _ _ (hP.sub [0] rfl) (hD.sub [0] (by decide) rfl) hS _ (lv_sub hl [3, 2, 1, 0] rfl) h
