theorem d_Arrays_fill_0 : decode c_Arrays_fill 0 = .ok (.iconst 0, 1) := by decide +kernel
theorem d_Arrays_fill_1 : decode c_Arrays_fill 1 = .ok (.istore_n 2, 1) := by decide +kernel
theorem d_Arrays_fill_2 : decode c_Arrays_fill 2 = .ok (.aload_n 0, 1) := by decide +kernel
theorem d_Arrays_fill_3 : decode c_Arrays_fill 3 = .ok (.arraylength, 1) := by decide +kernel
theorem d_Arrays_fill_4 : decode c_Arrays_fill 4 = .ok (.istore_n 3, 1) := by decide +kernel
theorem d_Arrays_fill_5 : decode c_Arrays_fill 5 = .ok (.iload_n 2, 1) := by decide +kernel
theorem d_Arrays_fill_6 : decode c_Arrays_fill 6 = .ok (.iload_n 3, 1) := by decide +kernel
theorem d_Arrays_fill_7 : decode c_Arrays_fill 7 = .ok (.if_icmp .ge 13, 3) := by decide +kernel
theorem d_Arrays_fill_10 : decode c_Arrays_fill 10 = .ok (.aload_n 0, 1) := by decide +kernel
theorem d_Arrays_fill_11 : decode c_Arrays_fill 11 = .ok (.iload_n 2, 1) := by decide +kernel
theorem d_Arrays_fill_12 : decode c_Arrays_fill 12 = .ok (.iload_n 1, 1) := by decide +kernel
theorem d_Arrays_fill_13 : decode c_Arrays_fill 13 = .ok (.iastore, 1) := by decide +kernel
theorem d_Arrays_fill_14 : decode c_Arrays_fill 14 = .ok (.iinc 2 1, 3) := by decide +kernel
theorem d_Arrays_fill_17 : decode c_Arrays_fill 17 = .ok (.goto (-12), 3) := by decide +kernel
theorem d_Arrays_fill_20 : decode c_Arrays_fill 20 = .ok (.return_, 1) := by decide +kernel
theorem d_TB_isMode_0 : decode c_TB_isMode 0 = .ok (.iload_n 0, 1) := by decide +kernel
theorem d_TB_isMode_1 : decode c_TB_isMode 1 = .ok (.ifCond .lt 12, 3) := by decide +kernel
theorem d_TB_isMode_4 : decode c_TB_isMode 4 = .ok (.iload_n 0, 1) := by decide +kernel
theorem d_TB_isMode_5 : decode c_TB_isMode 5 = .ok (.iconst 3, 1) := by decide +kernel
theorem d_TB_isMode_6 : decode c_TB_isMode 6 = .ok (.if_icmp .ge 7, 3) := by decide +kernel
theorem d_TB_isMode_9 : decode c_TB_isMode 9 = .ok (.iconst 1, 1) := by decide +kernel
theorem d_TB_isMode_10 : decode c_TB_isMode 10 = .ok (.goto 4, 3) := by decide +kernel
theorem d_TB_isMode_13 : decode c_TB_isMode 13 = .ok (.iconst 0, 1) := by decide +kernel
theorem d_TB_isMode_14 : decode c_TB_isMode 14 = .ok (.ireturn, 1) := by decide +kernel
theorem d_TB_holds_0 : decode c_TB_holds 0 = .ok (.iload_n 0, 1) := by decide +kernel
theorem d_TB_holds_1 : decode c_TB_holds 1 = .ok (.iload_n 1, 1) := by decide +kernel
theorem d_TB_holds_2 : decode c_TB_holds 2 = .ok (.ishr, 1) := by decide +kernel
theorem d_TB_holds_3 : decode c_TB_holds 3 = .ok (.iconst 1, 1) := by decide +kernel
theorem d_TB_holds_4 : decode c_TB_holds 4 = .ok (.iand, 1) := by decide +kernel
theorem d_TB_holds_5 : decode c_TB_holds 5 = .ok (.ifCond .eq 7, 3) := by decide +kernel
theorem d_TB_holds_8 : decode c_TB_holds 8 = .ok (.iconst 1, 1) := by decide +kernel
theorem d_TB_holds_9 : decode c_TB_holds 9 = .ok (.goto 4, 3) := by decide +kernel
theorem d_TB_holds_12 : decode c_TB_holds 12 = .ok (.iconst 0, 1) := by decide +kernel
theorem d_TB_holds_13 : decode c_TB_holds 13 = .ok (.ireturn, 1) := by decide +kernel
def p_Arrays_fill_5 (n_p0 : Nat) (x1 : Int32) (post : (Nat → Int32) → Prop) : Nat → Int32 → Int32 → (Nat → Int32) → Prop
  | 0, _, _, _ => False
  | n + 1, l2, l3, f_p0 => ((l3 ≤ l2 → (post f_p0)) ∧ (¬ l3 ≤ l2 → (vp_in l2 n_p0 ∧ (p_Arrays_fill_5 n_p0 x1 post n (l2 + 1) l3 (upd f_p0 l2.toNatClampNeg x1)))))
def p_Arrays_fill (n_p0 : Nat) (f_p0 : (Nat → Int32)) (x1 : Int32) (post : (Nat → Int32) → Prop) : Prop := (∃ k, p_Arrays_fill_5 n_p0 x1 post k 0 (Int32.ofNat n_p0) f_p0)
set_option maxHeartbeats 4000000 in
set_option maxRecDepth 100000 in
theorem k_Arrays_fill (l : Launch) (G : va_G) (K : Nat → ClassId) (a0 : Nat) (sz : Nat) (n_p0 : Nat) (f_p0 : (Nat → Int32)) (x1 : Int32) (post : (Nat → Int32) → Prop) (h : p_Arrays_fill n_p0 f_p0 x1 post) : MWv l y_Arrays_fill (.code y_Arrays_fill c_Arrays_fill 4 none) { frames := 0, cells := 0, slots := 0, locals := 0 } G K [(a0, .inl (K 0, n_p0, .inl f_p0))] [] [.ref a0, .int x1] sz (fun (u : (Nat → Int32)) => post u) (fun u => [(a0, .inl (K 0, n_p0, .inl u))]) 0 0 := by
  refine g_metWv (cc := c_Arrays_fill) (maxL := 4) (ret := none) (by decide) rfl rfl (Nat.le_of_ble_eq_true rfl) ?_
  intro p e s m below meth c A Q hx hb hml hown hname htg hK hN hP hD hA hS hR rN hret ls hl
  have hl : lv_has ls 4 [(0, .ref a0), (1, .int x1)] := hl
  have C_5 : ∀ (n : Nat) (l2 : Int32) (l3 : Int32) (f_p0 : (Nat → Int32)) (H : Heap) (locs : List Loc), va_P G vwCl [(a0, .inl (K 0, n_p0, .inl f_p0))] H → va_D A [(a0, .inl (K 0, n_p0, .inl f_p0))] → va_S A s.heap H locs → ∀ (ls : Array Slot), lv_has ls 4 [(0, .ref a0), (1, .int x1), (2, .int l2), (3, .int l3)] → p_Arrays_fill_5 n_p0 x1 post n l2 l3 f_p0 → W p l e { frames := 0, cells := 0, slots := 0, locals := 0 } s m ([.ref a0, .int x1] : List Value).toArray below meth c H locs 0 0 Q (F0 m 5 ls []) := by
    intro n
    induction n with
    | zero =>
      intro l2 l3 f_p0  H locs hP hD hS ls hl h
      exact False.elim h
    | succ n ih =>
      intro l2 l3 f_p0  H locs hP hD hS ls hl h
      refine lv_iload_n hx hb d_Arrays_fill_5 rfl (lv_at hl 2 rfl) ?_
      refine lv_iload_n hx hb d_Arrays_fill_6 rfl (lv_at hl 3 rfl) ?_
      refine lv_icmp_ge (tgt := 20) hx hb d_Arrays_fill_7 (by decide) (fun hc => ?_) (fun hc => ?_)
      · replace h := h.1 hc
        exact hret f_p0 _ _ _ _ h (hP.sub [0] rfl) (hD.sub [0] (by decide) rfl) hS d_Arrays_fill_20
      · replace h := h.2 hc
        refine lv_aload_n hx hb d_Arrays_fill_10 rfl (lv_at hl 0 rfl) ?_
        refine lv_iload_n hx hb d_Arrays_fill_11 rfl (lv_at hl 2 rfl) ?_
        refine lv_iload_n hx hb d_Arrays_fill_12 rfl (lv_at hl 1 rfl) ?_
        obtain ⟨hin, h⟩ := h
        refine va_iast hx hb hK hP hD hS 0 0 rfl rfl hin d_Arrays_fill_13 (fun H locs hP hD hS => ?_)
        have hP : va_P G vwCl [(a0, .inl (K 0, n_p0, .inl (upd f_p0 l2.toNatClampNeg x1)))] H := hP
        have hD : va_D A [(a0, .inl (K 0, n_p0, .inl (upd f_p0 l2.toNatClampNeg x1)))] := hD
        refine lv_iinc (v := (l2 + 1)) (lv' := [(2, .int (l2 + 1)), (0, .ref a0), (1, .int x1), (3, .int l3)]) hx hb d_Arrays_fill_14 hl (k := 2) rfl (by first | rfl | decide) (by decide) rfl (fun ls hl => ?_)
        refine lv_goto (tgt := 5) hx hb d_Arrays_fill_17 (by decide) ?_
        exact ih (l2 + 1) l3 (upd f_p0 l2.toNatClampNeg x1)  _ _ (hP.sub [0] rfl) (hD.sub [0] (by decide) rfl) hS _ (lv_sub hl [1, 2, 0, 3] rfl) h
  refine lv_iconst (v := 0) hx hb d_Arrays_fill_0 (by decide) ?_
  refine lv_istore_n (lv' := [(2, .int 0), (0, .ref a0), (1, .int x1)]) hx hb d_Arrays_fill_1 rfl hl (by decide) rfl (fun ls hl => ?_)
  refine lv_aload_n hx hb d_Arrays_fill_2 rfl (lv_at hl 1 rfl) ?_
  refine va_alen (v := (Int32.ofNat n_p0)) hx hb hK hP 0 0 rfl rfl (by first | rfl | decide) d_Arrays_fill_3 ?_
  refine lv_istore_n (lv' := [(3, .int (Int32.ofNat n_p0)), (2, .int 0), (0, .ref a0), (1, .int x1)]) hx hb d_Arrays_fill_4 rfl hl (by decide) rfl (fun ls hl => ?_)
  obtain ⟨k, h⟩ := h
  exact C_5 k 0 (Int32.ofNat n_p0) f_p0  _ _ (hP.sub [0] rfl) (hD.sub [0] (by decide) rfl) hS _ (lv_sub hl [2, 3, 1, 0] rfl) h
def p_TB_isMode (x0 : Int32) (post : Int32 → Prop) : Prop := ((x0 < 0 → (post 0)) ∧ (¬ x0 < 0 → ((3 ≤ x0 → (post 0)) ∧ (¬ 3 ≤ x0 → (post 1)))))
set_option maxHeartbeats 4000000 in
set_option maxRecDepth 100000 in
theorem k_TB_isMode (l : Launch) (G : va_G) (K : Nat → ClassId)  (x0 : Int32) (post : Int32 → Prop) (h : p_TB_isMode x0 post) : MSi l y_TB_isMode (.code y_TB_isMode c_TB_isMode 1 (some .boolean)) { frames := 0, cells := 0, slots := 0, locals := 0 } G K [] [.int x0] post := by
  refine g_metSi (cc := c_TB_isMode) (maxL := 1) (ret := some .boolean) (rt := .boolean) (by decide) rfl rfl (Nat.le_of_ble_eq_true rfl) ?_
  intro p e s m below meth c Q hx hb hml hown htg hK hN hP hret ls hl
  have hl : lv_has ls 1 [(0, .int x0)] := hl
  refine lv_iload_n hx hb d_TB_isMode_0 rfl (lv_at hl 0 rfl) ?_
  refine lv_if_lt (tgt := 13) hx hb d_TB_isMode_1 (by decide) (fun hc => ?_) (fun hc => ?_)
  · replace h := h.1 hc
    refine lv_iconst (v := 0) hx hb d_TB_isMode_13 (by decide) ?_
    exact hret _ _ _ h (by decide +kernel) d_TB_isMode_14
  · replace h := h.2 hc
    refine lv_iload_n hx hb d_TB_isMode_4 rfl (lv_at hl 0 rfl) ?_
    refine lv_iconst (v := 3) hx hb d_TB_isMode_5 (by decide) ?_
    refine lv_icmp_ge (tgt := 13) hx hb d_TB_isMode_6 (by decide) (fun hc => ?_) (fun hc => ?_)
    · replace h := h.1 hc
      refine lv_iconst (v := 0) hx hb d_TB_isMode_13 (by decide) ?_
      exact hret _ _ _ h (by decide +kernel) d_TB_isMode_14
    · replace h := h.2 hc
      refine lv_iconst (v := 1) hx hb d_TB_isMode_9 (by decide) ?_
      refine lv_goto (tgt := 14) hx hb d_TB_isMode_10 (by decide) ?_
      exact hret _ _ _ h (by decide +kernel) d_TB_isMode_14
def p_TB_holds (x0 : Int32) (x1 : Int32) (post : Int32 → Prop) : Prop := ((((x0 >>> (x1 &&& 31)) &&& (1 : Int32)) = 0 → (post 0)) ∧ (¬ ((x0 >>> (x1 &&& 31)) &&& (1 : Int32)) = 0 → (post 1)))
set_option maxHeartbeats 4000000 in
set_option maxRecDepth 100000 in
theorem k_TB_holds (l : Launch) (G : va_G) (K : Nat → ClassId)  (x0 : Int32) (x1 : Int32) (post : Int32 → Prop) (h : p_TB_holds x0 x1 post) : MSi l y_TB_holds (.code y_TB_holds c_TB_holds 2 (some .boolean)) { frames := 0, cells := 0, slots := 0, locals := 0 } G K [] [.int x0, .int x1] post := by
  refine g_metSi (cc := c_TB_holds) (maxL := 2) (ret := some .boolean) (rt := .boolean) (by decide) rfl rfl (Nat.le_of_ble_eq_true rfl) ?_
  intro p e s m below meth c Q hx hb hml hown htg hK hN hP hret ls hl
  have hl : lv_has ls 2 [(0, .int x0), (1, .int x1)] := hl
  refine lv_iload_n hx hb d_TB_holds_0 rfl (lv_at hl 0 rfl) ?_
  refine lv_iload_n hx hb d_TB_holds_1 rfl (lv_at hl 1 rfl) ?_
  refine lv_ishr hx hb d_TB_holds_2 ?_
  refine lv_iconst (v := 1) hx hb d_TB_holds_3 (by decide) ?_
  refine lv_iand hx hb d_TB_holds_4 ?_
  refine lv_if_eq (tgt := 12) hx hb d_TB_holds_5 (by decide) (fun hc => ?_) (fun hc => ?_)
  · replace h := h.1 hc
    refine lv_iconst (v := 0) hx hb d_TB_holds_12 (by decide) ?_
    exact hret _ _ _ h (by decide +kernel) d_TB_holds_13
  · replace h := h.2 hc
    refine lv_iconst (v := 1) hx hb d_TB_holds_8 (by decide) ?_
    refine lv_goto (tgt := 13) hx hb d_TB_holds_9 (by decide) ?_
    exact hret _ _ _ h (by decide +kernel) d_TB_holds_13
