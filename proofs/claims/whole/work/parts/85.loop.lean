theorem and15 (x : Int32) : ∃ k, k < 16 ∧ x &&& 15 = nI k := by
  refine ⟨(x.toBitVec &&& 15#32).toNat, ?_, ?_⟩
  · rw [BitVec.toNat_and]
    have : (15#32).toNat = 15 := rfl
    rw [this]
    exact Nat.lt_of_le_of_lt Nat.and_le_right (by decide)
  · apply Int32.toBitVec_inj.mp
    show x.toBitVec &&& (15 : Int32).toBitVec = (Int32.ofNat _).toBitVec
    rw [Int32.toBitVec_ofNat']
    rw [show (15 : Int32).toBitVec = 15#32 from rfl]
    simp
theorem lt4 {L i : Nat} (hL : L ≤ 2048) (hi : i ≤ 4096) (h : ¬ nI L - 4 < nI i) : i + 3 < L := by
  rw [Int32.lt_iff_toInt_lt, Int32.toInt_sub, nI_toInt (by omega), nI_toInt (by omega)] at h
  rw [show (4 : Int32).toInt = 4 from rfl] at h
  rw [Int.bmod_eq_of_le (by omega) (by omega)] at h
  omega

set_option maxHeartbeats 4000000 in
set_option maxRecDepth 100000 in
theorem law_loop {p : Program} {l : Launch} {e : Env} {s : State} {m : MethodId} {below : List Frame} {meth : Method} {c : Code} {b L : Nat} {xs : Nat → Int32} {G : va_G} {K : Nat → ClassId} {a0 b0 ao : Nat} {Q : State → Prop} 
    (hx : p.tables.exec = Jvm.exec) (hb : c.code = code) (hml : c.maxLocals = 7) (hown : s.vm.findClass "TokenBenchLaw" = some m.cls) (htg : ∀ w ∈ GT, w.before #[Value.ref b] s = true) (hc24 : (Cond.constantLong "TokenBenchLaw" 24 4294967295).before #[Value.ref b] s = true) (hte : ∀ w ∈ ET, w.before #[Value.ref b] s = true) (htr : ∀ e, l.admits e → e.platform.stackTraces = false) (hZ : TZ (fun q => s.heap.size ≤ q) s s.heap) (hX : va_X b L xs s s.heap) (hbl : b < s.heap.size) (hK : va_K G vwCl (TY K) s) (hN : gNw s)
     (hL31 : L ≤ 2048)
    (hend : ∀ (H : Heap) (ls : Array Slot), W p l e room_1 s m #[Value.ref b] below meth c H [] 601024 7293034 Q (F0 m 669 ls [.int 1])) :
    ∀ (n i cells slots : Nat) (H : Heap) (locs : List Loc) (ls : Array Slot), L ≤ i + 4 * n + 3 → i ≤ 4096 - 4 * n → n ≤ 512 → cells + 1173 * n ≤ 601024 → slots + 14000 * n ≤ 7293034 → LJ G K (fun q => s.heap.size ≤ q) a0 b0 ao H → va_S (fun q => s.heap.size ≤ q) s.heap H locs → lv_has ls 7 [(0, .ref b), (1, .ref a0), (2, .ref b0), (3, .ref ao), (4, .int (nI i))] → W p l e room_1 s m #[Value.ref b] below meth c H locs cells slots Q (F0 m 23 ls []) := by
  have hbA : ¬ (fun q : Nat => s.heap.size ≤ q) b := Nat.not_le.mpr hbl
  intro n
  induction n with
  | zero =>
    intro i cells slots H locs ls hn hi _ hcl hsl hI hS hl
    refine lv_iload hx hb d_law_23 (lv_at hl 4 rfl) ?_
    refine lv_aload_n hx hb d_law_25 rfl (lv_at hl 0 rfl) ?_
    refine va_slen hx hb hX hbl hbA hS d_law_26 ?_
    refine lv_iconst (v := 4) hx hb d_law_27 (by decide) ?_
    refine lv_isub hx hb d_law_28 ?_
    refine lv_icmp_gt (tgt := 668) hx hb d_law_29 (by decide) (fun _ => ?_) (fun hc => ?_)
    · refine lv_iconst (v := 1) hx hb d_law_668 (by decide) ?_
      refine W.widen (k := 601024) (n := 7293034) (by omega) (by omega) ?_
      exact va_forget (fun q hq => hS.2.2 q hq) (hend _ _)
    · have hlt : i + 3 < L := lt4 hL31 (by omega) hc
      omega
  | succ n ih =>
    intro i cells slots H locs ls hn hi h512 hcl hsl hI hS hl
    refine lv_iload hx hb d_law_23 (lv_at hl 4 rfl) ?_
    refine lv_aload_n hx hb d_law_25 rfl (lv_at hl 0 rfl) ?_
    refine va_slen hx hb hX hbl hbA hS d_law_26 ?_
    refine lv_iconst (v := 4) hx hb d_law_27 (by decide) ?_
    refine lv_isub hx hb d_law_28 ?_
    refine lv_icmp_gt (tgt := 668) hx hb d_law_29 (by decide) (fun _ => ?_) (fun hc => ?_)
    · refine lv_iconst (v := 1) hx hb d_law_668 (by decide) ?_
      refine W.widen (k := 601024) (n := 7293034) (by omega) (by omega) ?_
      exact va_forget (fun q hq => hS.2.2 q hq) (hend _ _)
    · have hlt : i + 3 < L := lt4 hL31 (by omega) hc
      have next : ∀ (H1 : Heap) (locs1 : List Loc) (ls1 : Array Slot), lv_has ls1 7 [(0, .ref b), (1, .ref a0), (2, .ref b0), (3, .ref ao), (4, .int (nI i))] → LJ G K (fun q => s.heap.size ≤ q) a0 b0 ao H1 → va_S (fun q => s.heap.size ≤ q) s.heap H1 locs1 → W p l e room_1 s m #[Value.ref b] below meth c H1 locs1 (cells + 1173) (slots + 14000) Q (F0 m 662 ls1 []) := by
        intro H1 locs1 ls1 hl hI hS
        refine lv_iinc (k := 4) (v := nI (i + 4)) hx hb d_law_662 hl rfl (show nI i + Int32.ofInt 4 = nI (i + 4) from nI_add i 4) (by decide) rfl (fun ls hl => ?_)
        refine lv_goto (tgt := 23) hx hb d_law_665 (by decide) ?_
        exact ih (i + 4) (cells + 1173) (slots + 14000) H1 locs1 ls (by omega) (by omega) (by omega) (by omega) (by omega) hI hS (lv_perm hl [1, 2, 3, 4, 0] rfl)
      have kk : ∀ (H1 : Heap) (locs1 : List Loc), LJ G K (fun q => s.heap.size ≤ q) a0 b0 ao H1 → va_S (fun q => s.heap.size ≤ q) s.heap H1 locs1 → W p l e room_1 s m #[Value.ref b] below meth c H1 locs1 (cells + 1173) (slots + 14000) Q (F0 m 662 ls []) := fun H1 locs1 hI hS => next H1 locs1 ls hl hI hS
      refine lv_aload_n hx hb d_law_32 rfl (lv_at hl 0 rfl) ?_
      refine lv_iload hx hb d_law_33 (lv_at hl 4 rfl) ?_
      refine va_sld hx hb hX hbl hbA hS (vp_in_nI (n := i) (by omega) (by omega)) d_law_35 ?_
      refine lv_bipush (v := 15) hx hb d_law_36 (by decide) ?_
      refine lv_iand hx hb d_law_38 ?_
      obtain ⟨k, hk, ek⟩ := and15 (xs (nI i).toNatClampNeg)
      rw [ek]
      have hcl1 : cells + 1173 ≤ 601024 := by omega
      have hsl1 : slots + 14000 ≤ 7293034 := by omega
      rcases (by omega : k = 0 ∨ k = 1 ∨ k = 2 ∨ k = 3 ∨ k = 4 ∨ k = 5 ∨ k = 6 ∨ k = 7 ∨ k = 8 ∨ k = 9 ∨ k = 10 ∨ k = 11 ∨ k = 12 ∨ k = 13 ∨ k = 14 ∨ k = 15) with e | e | e | e | e | e | e | e | e | e | e | e | e | e | e | e <;> subst e
      · refine lv_tableIn (off := 77) (tgt := 116) hx hb d_law_39 (by decide) (by decide) (by decide) (by decide) ?_
        exact law_c0 hx hb hml hown htg hc24 hX hbl hK hN hI hS hlt hL31 hl hcl1 hsl1 kk
      · refine lv_tableIn (off := 146) (tgt := 185) hx hb d_law_39 (by decide) (by decide) (by decide) (by decide) ?_
        exact law_c1 hx hb hml hown htg hX hbl hK hN hI hS hlt hL31 hl hcl1 hsl1 kk
      · refine lv_tableIn (off := 183) (tgt := 222) hx hb d_law_39 (by decide) (by decide) (by decide) (by decide) ?_
        exact law_c2 hx hb hml hown htg hX hbl hK hN hI hS hlt hL31 hl hcl1 hsl1 kk
      · refine lv_tableIn (off := 208) (tgt := 247) hx hb d_law_39 (by decide) (by decide) (by decide) (by decide) ?_
        exact law_c3 hx hb hml hown htg hX hbl hK hN hI hS hlt hL31 hl hcl1 hsl1 kk
      · refine lv_tableIn (off := 257) (tgt := 296) hx hb d_law_39 (by decide) (by decide) (by decide) (by decide) ?_
        exact law_c4 hx hb hml hown htg hX hbl hK hN hI hS hlt hL31 hl hcl1 hsl1 kk
      · refine lv_tableIn (off := 294) (tgt := 333) hx hb d_law_39 (by decide) (by decide) (by decide) (by decide) ?_
        by_cases q0 : xs (nI i + 1).toNatClampNeg = 0
        · exact law_c5_0 hx hb hml hown htg q0 hX hbl hK hN hI hS hlt hL31 hl hcl1 hsl1 kk
        · by_cases q1 : xs (nI i + 1).toNatClampNeg = 1
          · exact law_c5_1 hx hb hml hown htg q1 hX hbl hK hN hI hS hlt hL31 hl hcl1 hsl1 kk
          · by_cases q2 : xs (nI i + 1).toNatClampNeg = 2
            · exact law_c5_2 hx hb hml hown htg q2 hX hbl hK hN hI hS hlt hL31 hl hcl1 hsl1 kk
            · exact law_c5_x hx hb hml hown htg (fun z => z.elim q0 (fun z => z.elim q1 q2)) hX hbl hK hN hI hS hlt hL31 hl hcl1 hsl1 kk
      · refine lv_tableIn (off := 319) (tgt := 358) hx hb d_law_39 (by decide) (by decide) (by decide) (by decide) ?_
        exact law_c6 hx hb hml hown htg hX hbl hK hN hI hS hlt hL31 hl hcl1 hsl1 kk
      · refine lv_tableIn (off := 344) (tgt := 383) hx hb d_law_39 (by decide) (by decide) (by decide) (by decide) ?_
        exact law_c7 hx hb hml hown htg hX hbl hK hN hI hS hlt hL31 hl hcl1 hsl1 kk
      · refine lv_tableIn (off := 381) (tgt := 420) hx hb d_law_39 (by decide) (by decide) (by decide) (by decide) ?_
        exact law_c8 hx hb hml hown htg hX hbl hK hN hI hS hlt hL31 hl hcl1 hsl1 kk
      · refine lv_tableIn (off := 430) (tgt := 469) hx hb d_law_39 (by decide) (by decide) (by decide) (by decide) ?_
        exact law_c9 hx hb hml hown htg hX hbl hK hN hI hS hlt hL31 hl hcl1 hsl1 kk
      · refine lv_tableIn (off := 455) (tgt := 494) hx hb d_law_39 (by decide) (by decide) (by decide) (by decide) ?_
        exact law_c10 hx hb hml hown htg hX hbl hK hN hI hS hlt hL31 hl hcl1 hsl1 kk
      · refine lv_tableIn (off := 492) (tgt := 531) hx hb d_law_39 (by decide) (by decide) (by decide) (by decide) ?_
        exact law_c11 hx hb hml hown htg hX hbl hK hN hI hS hlt hL31 hl hcl1 hsl1 kk
      · refine lv_tableIn (off := 505) (tgt := 544) hx hb d_law_39 (by decide) (by decide) (by decide) (by decide) ?_
        exact law_c12 hx hb hml hown htg hX hbl hK hN hI hS hlt hL31 hl hcl1 hsl1 kk
      · refine lv_tableIn (off := 518) (tgt := 557) hx hb d_law_39 (by decide) (by decide) (by decide) (by decide) ?_
        exact law_c13 hx hb hml hown htg hte htr hZ hX hbl hK hN hI hS hlt hL31 hl hcl1 hsl1 next
      · refine lv_tableIn (off := 574) (tgt := 613) hx hb d_law_39 (by decide) (by decide) (by decide) (by decide) ?_
        exact law_c14 hx hb hml hown htg hte htr hZ hX hbl hK hN hI hS hlt hL31 hl hcl1 hsl1 next
      · refine lv_tableIn (off := 598) (tgt := 637) hx hb d_law_39 (by decide) (by decide) (by decide) (by decide) ?_
        exact law_c15 hx hb hml hown htg hX hbl hK hN hI hS hlt hL31 hl hcl1 hsl1 kk
