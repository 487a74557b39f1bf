/-! The words of this proof: a world of cells with one table of array classes; contracts of methods that read (gS) and of methods that write (gW); calls. -/
abbrev TY (K : Nat → ClassId) : List (ClassId × FieldType) := [(K 0, .int), (K 1, .boolean), (K 2, .object "TokenBench$Piece"), (K 3, .object "TokenBench$Mode"), (K 4, .object "TokenBench$Machine"), (K 5, .long)]
/-- what of the tables isn't among the words: the nest's links, the classes of arrays of references -/
def gNw (U : State) : Prop := (∀ w ∈ NW, va_Nw w U) ∧ va_AO "TokenBench$Piece" U ∧ va_AO "TokenBench$Mode" U ∧ va_AO "TokenBench$Machine" U
theorem gNw.warm {s U : State} (hW : s.WarmedH U.vm) (h : gNw s) : gNw U := ⟨NW_warm hW h.1, va_AO.moved hW.alike h.2.1, va_AO.moved hW.alike h.2.2.1, va_AO.moved hW.alike h.2.2.2⟩
theorem gNw.same {s U : State} (hV : s.vm = U.vm) (h : gNw s) : gNw U := ⟨fun w hw => va_Nw.same (NW_on w hw) hV (h.1 w hw), va_AO.moved (hV ▸ Vm.Alike.refl s.vm) h.2.1, va_AO.moved (hV ▸ Vm.Alike.refl s.vm) h.2.2.1, va_AO.moved (hV ▸ Vm.Alike.refl s.vm) h.2.2.2⟩
theorem gGood {cw : Cond} (h : cw ∈ GT) : GoodIn GT (cw :: GT) := fun w hw => (List.mem_cons.mp hw).elim (fun e => by rw [e]; exact ⟨h, GT_good _ h⟩) (fun h => ⟨h, GT_good w h⟩)
theorem gGoodV {cw : Cond} {own C : String} {idx : Nat} {y : MethodName} (h1 : Cond.methodLink own idx y ∈ GT) (h2 : Cond.instanceMethod y ∈ GT) (h3 : Cond.selects C y y ∈ GT) (h4 : Cond.initialized C ∈ GT) (h : cw ∈ GT) : GoodIn GT (wsV own idx C y (cw :: GT)) := by
  intro w hw
  simp only [wsV, List.cons_append, List.nil_append, List.mem_cons] at hw
  rcases hw with rfl | rfl | rfl | rfl | rfl | hw
  · exact ⟨h1, GT_good _ h1⟩
  · exact ⟨h2, GT_good _ h2⟩
  · exact ⟨h3, GT_good _ h3⟩
  · exact ⟨h4, GT_good _ h4⟩
  · exact ⟨h, GT_good _ h⟩
  · exact ⟨hw, GT_good _ hw⟩
theorem gGoodS {cw : Cond} {own : String} {idx : Nat} {y : MethodName} (h1 : Cond.methodLink own idx y ∈ GT) (h2 : Cond.static y ∈ GT) (h4 : Cond.initialized y.cls ∈ GT) (h : cw ∈ GT) : GoodIn GT (va_wsS own idx y (cw :: GT)) := by
  intro w hw
  simp only [va_wsS, List.cons_append, List.nil_append, List.mem_cons] at hw
  rcases hw with rfl | rfl | rfl | rfl | hw
  · exact ⟨h1, GT_good _ h1⟩
  · exact ⟨h2, GT_good _ h2⟩
  · exact ⟨h4, GT_good _ h4⟩
  · exact ⟨h, GT_good _ h⟩
  · exact ⟨hw, GT_good _ hw⟩
def gS (G : va_G) (K : Nat → ClassId) (ws : va_W) (av : List Value) : Array Value → State → Prop := va_Pc av (fun U => va_P G vwCl ws U.heap ∧ va_K G vwCl (TY K) U ∧ gNw U)
/-- no cell of rs is one of ws -/
def gJ (ws rs : va_W) : Prop := ∀ (k : Nat) (q : Nat × va_E), rs[k]? = some q → ∀ (j : Nat) (p : Nat × va_E), ws[j]? = some p → p.1 ≠ q.1
def gW (G : va_G) (K : Nat → ClassId) (ws rs : va_W) (av : List Value) (sz : Nat) : Array Value → State → Prop := va_Pc av (fun U => U.heap.size = sz ∧ va_P G vwCl ws U.heap ∧ va_K G vwCl (TY K) U ∧ va_D (fun _ => True) ws ∧ va_P G vwCl rs U.heap ∧ gJ ws rs ∧ gNw U)
theorem gR {G : va_G} {rs : va_W} {A : Nat → Prop} {H0 H : Heap} {locs : List Loc} (hR : va_P G vwCl rs H0) (rN : ∀ (k : Nat) (q : Nat × va_E), rs[k]? = some q → ¬ A q.1) (hS : va_S A H0 H locs) : va_P G vwCl rs H := hR.kept (fun k q hk => hS.2.1 q.1 (hR k q hk).lt (rN k q hk))
theorem g_at {ws w : va_W} {is : List Nat} (h : is.map (fun i => ws[i]?) = w.map some) (k : Nat) (q : Nat × va_E) (hq : w[k]? = some q) : ∃ i, i ∈ is ∧ ws[i]? = some q := by
  have h1 : (is.map (fun i => ws[i]?))[k]? = some (some q) := by rw [h, List.getElem?_map, hq]; rfl
  rw [List.getElem?_map] at h1
  cases hi : is[k]? with
  | none => rw [hi] at h1; cases h1
  | some i => rw [hi] at h1; exact ⟨i, List.mem_of_getElem? hi, Option.some.inj h1⟩
theorem gJ_sub {A : Nat → Prop} {ws rs wc rc : va_W} (hD : va_D A ws) (rN : ∀ (k : Nat) (q : Nat × va_E), rs[k]? = some q → ¬ A q.1) (isC isK : List Nat) (hC : isC.map (fun i => ws[i]?) = wc.map some) (hK : isK.map (fun i => (ws ++ rs)[i]?) = rc.map some) (hdis : ∀ i ∈ isK, i ∉ isC) : gJ wc rc := by
  intro k q hq j p hp e
  obtain ⟨i, hi, h1⟩ := g_at hK k q hq
  obtain ⟨i2, hi2, h2⟩ := g_at hC j p hp
  by_cases hl : i < ws.length
  · rw [List.getElem?_append_left hl] at h1
    have := hD.1 i2 i p q h2 h1 e
    subst this
    exact hdis _ hi hi2
  · rw [List.getElem?_append_right (by omega)] at h1
    exact rN _ q h1 (by rw [← e]; exact hD.2 i2 p h2)
def gB (G : va_G) (K : Nat → ClassId) (w1 : va_W) (A : Nat → Prop) (t : State) : Prop := va_P G vwCl w1 t.heap ∧ va_K G vwCl (TY K) t ∧ va_D A w1
theorem gS_blind {G : va_G} {K : Nat → ClassId} {ws : va_W} {av : List Value} : FrameBlind (gS G K ws av) := fun a U g mk q => by
  obtain ⟨q0, qP, qK, qN⟩ := q
  exact ⟨q0, qP, va_K.moved (u := U) (U := U.calling g mk a) (Vm.Alike.refl U.vm) qK, gNw.same (s := U) (U := U.calling g mk a) rfl qN⟩
theorem gW_blind {G : va_G} {K : Nat → ClassId} {ws rs : va_W} {av : List Value} {sz : Nat} : FrameBlind (gW G K ws rs av sz) := fun a U g mk q => by
  obtain ⟨q0, q1, qP, qK, qD, qR, qJ, qN⟩ := q
  exact ⟨q0, q1, qP, va_K.moved (u := U) (U := U.calling g mk a) (Vm.Alike.refl U.vm) qK, qD, qR, qJ, gNw.same (s := U) (U := U.calling g mk a) rfl qN⟩
theorem gS_pre {s : State} {H : Heap} {G : va_G} {K : Nat → ClassId} {ws : va_W} {av : List Value} (hK : va_K G vwCl (TY K) s) (hN : gNw s) (hP : va_P G vwCl ws H) : PreS s H (gS G K ws av) av :=
  ⟨gS_blind, fun U hU hW => ⟨rfl, by rw [hU]; exact hP, va_K.moved hW.alike hK, hN.warm hW⟩⟩
theorem gW_pre {s : State} {H : Heap} {G : va_G} {K : Nat → ClassId} {ws rs : va_W} {av : List Value} {A : Nat → Prop} (hK : va_K G vwCl (TY K) s) (hN : gNw s) (hP : va_P G vwCl ws H) (hD : va_D A ws) (hR : va_P G vwCl rs H) (hJ : gJ ws rs) : PreS s H (gW G K ws rs av H.size) av :=
  ⟨gW_blind, fun U hU hW => ⟨rfl, by rw [hU], by rw [hU]; exact hP, va_K.moved hW.alike hK, hD.weaken (fun _ _ _ _ => trivial), by rw [hU]; exact hR, hJ, hN.warm hW⟩⟩
theorem gS_preV {s : State} {H : Heap} {G : va_G} {K : Nat → ClassId} {ws : va_W} {As : List Value} {b q0 ci : Nat} {q : vw_C} {fs : List Value} (hK : va_K G vwCl (TY K) s) (hN : gNw s) (hP : va_P G vwCl ws H) (hc : vwCl[ci]? = some q) (he : ws[q0]? = some (b, .inr (ci, fs))) : PreV s H q.1 b (gS G K ws (.ref b :: As)) As :=
  ⟨gS_blind, va_recv hK hP hc he, (gS_pre hK hN hP).2⟩
theorem gW_preV {s : State} {H : Heap} {G : va_G} {K : Nat → ClassId} {ws rs wv : va_W} {As : List Value} {A : Nat → Prop} {b q0 ci : Nat} {q : vw_C} {fs : List Value} (hK : va_K G vwCl (TY K) s) (hN : gNw s) (hP : va_P G vwCl ws H) (hD : va_D A ws) (hR : va_P G vwCl rs H) (hJ : gJ ws rs) (hV : va_P G vwCl wv H) (hc : vwCl[ci]? = some q) (he : wv[q0]? = some (b, .inr (ci, fs))) : PreV s H q.1 b (gW G K ws rs (.ref b :: As) H.size) As :=
  ⟨gW_blind, va_recv hK hV hc he, (gW_pre hK hN hP hD hR hJ).2⟩
/-- a method that only reads -/
theorem g_metS {l : Launch} {y : MethodName} {cc : ByteArray} {maxL : Nat} {ret : Option FieldType} {wt : List Cond} {rm : Room} {G : va_G} {K : Nat → ClassId} {ws : va_W} {av : List Value} {Qc : Array Value → State → Outcome → State → Prop}
    (hy : plainName y.cls = true) (hw : wt = Cond.code y cc maxL ret :: GT) (hn : (lg_sl av).length ≤ maxL)
    (body : ∀ p e s m below meth c, p.tables.exec = Jvm.exec → c.code = cc → meth.sig.returnType = ret → meth.locks = false → c.maxLocals = maxL → s.vm.findClass y.cls = some m.cls → (∀ w ∈ GT, w.before av.toArray s = true) → va_K G vwCl (TY K) s → gNw s → va_P G vwCl ws s.heap → ∀ ls : Array Slot, lv_has ls maxL (lv_args 0 av) →
      W p l e rm s m av.toArray below meth c s.heap [] 0 0 (MQ below Qc av.toArray s 0 0 (fun _ => False)) (F0 m 0 ls [])) : Met l y wt rm (gS G K ws av) Qc 0 0 (fun _ => False) := by
  refine Met.ofW (cc := cc) (maxL := maxL) (ret := ret) (ws' := GT) hy hw ?_
  intro p e s m args below meth c s₁ B hml hv
  obtain ⟨rfl, hP, hK, hN⟩ := hv
  have hts := atoms_spec (ws := wt) B.pre
  have hl := lv_entry av hn
  rw [lg_entry_eq]
  exact body p e s m below meth c B.exec B.bytes B.returns B.notSynchronized hml (findClass_of_methodNamed B.named) (fun w h => hts w (by rw [hw]; exact List.mem_cons_of_mem _ h)) hK hN hP _ hl
/-- a method that writes ws, reads rs too, or makes cells -/
theorem g_metW {l : Launch} {y : MethodName} {cc : ByteArray} {maxL : Nat} {ret : Option FieldType} {wt : List Cond} {rm : Room} {G : va_G} {K : Nat → ClassId} {ws rs : va_W} {av : List Value} {sz mc ms : Nat} {Qc : Array Value → State → Outcome → State → Prop}
    (hy : plainName y.cls = true) (hw : wt = Cond.code y cc maxL ret :: GT) (hn : (lg_sl av).length ≤ maxL)
    (body : ∀ p e s m below meth c, p.tables.exec = Jvm.exec → c.code = cc → meth.sig.returnType = ret → meth.locks = false → c.maxLocals = maxL → s.vm.findClass y.cls = some m.cls → meth.name = y.name → (∀ w ∈ GT, w.before av.toArray s = true) → va_K G vwCl (TY K) s → gNw s → va_P G vwCl ws s.heap →
      va_D (va_A ws sz) ws → (∀ q : Nat, s.heap.size ≤ q → va_A ws sz q) → va_S (va_A ws sz) s.heap s.heap [] → va_P G vwCl rs s.heap → (∀ (k : Nat) (q : Nat × va_E), rs[k]? = some q → ¬ va_A ws sz q.1) → ∀ ls : Array Slot, lv_has ls maxL (lv_args 0 av) →
      W p l e rm s m av.toArray below meth c s.heap [] 0 0 (MQ below Qc av.toArray s mc ms (va_A ws sz)) (F0 m 0 ls [])) : Met l y wt rm (gW G K ws rs av sz) Qc mc ms (va_A ws sz) := by
  refine Met.ofW (cc := cc) (maxL := maxL) (ret := ret) (ws' := GT) hy hw ?_
  intro p e s m args below meth c s₁ B hml hv
  obtain ⟨rfl, hsz, hP, hK, hD0, hR, hJ, hN⟩ := hv
  have hts := atoms_spec (ws := wt) B.pre
  subst hsz
  have hl := lv_entry av hn
  rw [lg_entry_eq]
  refine body p e s m below meth c B.exec B.bytes B.returns B.notSynchronized hml (findClass_of_methodNamed B.named) (name_of_methodNamed B.named B.method).1 (fun w h => hts w (by rw [hw]; exact List.mem_cons_of_mem _ h)) hK hN hP (hD0.self (sz := s.heap.size)) (fun q h => Or.inr h) va_S.rf hR ?_ _ hl
  intro k q hk hA
  rcases hA with ⟨k2, e2, h⟩ | h
  · exact hJ k q hk k2 (q.1, e2) h rfl
  · exact Nat.not_lt.mpr h (hR k q hk).lt
section GC
variable {p : Program} {l : Launch} {e : Env} {R : Room} {s : State} {m : MethodId} {args : Array Value} {below : List Frame} {meth : Method} {c : Code} {H : Heap} {locs : List Loc} {cells slots : Nat} {Q : State → Prop}
variable {pc : Nat} {ls : Array Slot} {rest st0 : List Value} {a : Array Value} {A : Nat → Prop} {mc ms : Nat} {G : va_G} {K : Nat → ClassId} {ws wc wr : va_W}
theorem g_calli {S : Type} {post : Int32 → S → Prop} {W1 : S → va_W} (hr : va_Run p l e R s m args below meth c H locs cells slots mc ms (F0 m pc ls st0) rest (va_Qi post (fun u t => gB G K (W1 u) (va_A wc H.size) t) (va_A wc H.size) a) (va_A wc H.size)) (hP : va_P G vwCl ws H) (hD : va_D A ws) (hS : va_S A s.heap H locs) (hA : ∀ q : Nat, s.heap.size ≤ q → A q)
    (isC isR : List Nat) (hC : isC.map (fun i => ws[i]?) = wc.map some) (hR : isR.map (fun i => ws[i]?) = wr.map some) (hn : va_nd isR = true) (hdis : ∀ i ∈ isR, i ∉ isC)
    (kk : ∀ (r : Int32) (u : S) (H1 : Heap) (locs1 : List Loc), post r u → va_P G vwCl (wr ++ W1 u) H1 → va_D A (wr ++ W1 u) → va_S A s.heap H1 locs1 → W p l e R s m args below meth c H1 locs1 (cells + mc) (slots + ms) Q (F0 m (pc + 3) ls (.int r :: rest))) : W p l e R s m args below meth c H locs cells slots Q (F0 m pc ls st0) := by
  have hFc := va_free (wc := wc) hD hS hA isC hC
  refine va_calli hr hS (fun q _ h => hFc q h) hFc (fun r u t H1 locs ht hvm hw hB hz1 hk1 hS => ?_)
  obtain ⟨hP1, hK1, hD1⟩ := hB
  rw [ht] at hP1
  obtain ⟨hP, hD⟩ := va_join (wr := wr) (w1 := W1 u) hP hD isC isR hC hR hn hdis hk1 hFc hP1 hD1
  exact kk r u H1 locs hw hP hD hS
theorem g_callv {S : Type} {post : S → Prop} {W1 : S → va_W} (hr : va_Run p l e R s m args below meth c H locs cells slots mc ms (F0 m pc ls st0) rest (va_Qv post (fun u t => gB G K (W1 u) (va_A wc H.size) t) (va_A wc H.size) a) (va_A wc H.size)) (hP : va_P G vwCl ws H) (hD : va_D A ws) (hS : va_S A s.heap H locs) (hA : ∀ q : Nat, s.heap.size ≤ q → A q)
    (isC isR : List Nat) (hC : isC.map (fun i => ws[i]?) = wc.map some) (hR : isR.map (fun i => ws[i]?) = wr.map some) (hn : va_nd isR = true) (hdis : ∀ i ∈ isR, i ∉ isC)
    (kk : ∀ (u : S) (H1 : Heap) (locs1 : List Loc), post u → va_P G vwCl (wr ++ W1 u) H1 → va_D A (wr ++ W1 u) → va_S A s.heap H1 locs1 → W p l e R s m args below meth c H1 locs1 (cells + mc) (slots + ms) Q (F0 m (pc + 3) ls rest)) : W p l e R s m args below meth c H locs cells slots Q (F0 m pc ls st0) := by
  have hFc := va_free (wc := wc) hD hS hA isC hC
  refine va_callv hr hS (fun q _ h => hFc q h) hFc (fun u t H1 locs ht hvm hw hB hz1 hk1 hS => ?_)
  obtain ⟨hP1, hK1, hD1⟩ := hB
  rw [ht] at hP1
  obtain ⟨hP, hD⟩ := va_join (wr := wr) (w1 := W1 u) hP hD isC isR hC hR hn hdis hk1 hFc hP1 hD1
  exact kk u H1 locs hw hP hD hS
theorem g_callr {S : Type} {post : S → Prop} {W1 : S → Nat → va_W} (hr : va_Run p l e R s m args below meth c H locs cells slots mc ms (F0 m pc ls st0) rest (va_Qr post (fun u ra t => gB G K (W1 u ra) (va_A wc H.size) t) (va_A wc H.size) a) (va_A wc H.size)) (hP : va_P G vwCl ws H) (hD : va_D A ws) (hS : va_S A s.heap H locs) (hA : ∀ q : Nat, s.heap.size ≤ q → A q)
    (isC isR : List Nat) (hC : isC.map (fun i => ws[i]?) = wc.map some) (hR : isR.map (fun i => ws[i]?) = wr.map some) (hn : va_nd isR = true) (hdis : ∀ i ∈ isR, i ∉ isC)
    (kk : ∀ (u : S) (ra : Nat) (H1 : Heap) (locs1 : List Loc), post u → va_P G vwCl (wr ++ W1 u ra) H1 → va_D A (wr ++ W1 u ra) → va_S A s.heap H1 locs1 → W p l e R s m args below meth c H1 locs1 (cells + mc) (slots + ms) Q (F0 m (pc + 3) ls (.ref ra :: rest))) : W p l e R s m args below meth c H locs cells slots Q (F0 m pc ls st0) := by
  have hFc := va_free (wc := wc) hD hS hA isC hC
  refine va_callr hr hS (fun q _ h => hFc q h) hFc (fun u ra t H1 locs ht hvm hw hB hz1 hk1 hS => ?_)
  obtain ⟨hP1, hK1, hD1⟩ := hB
  rw [ht] at hP1
  obtain ⟨hP, hD⟩ := va_join (wr := wr) (w1 := W1 u ra) hP hD isC isR hC hR hn hdis hk1 hFc hP1 hD1
  exact kk u ra H1 locs hw hP hD hS
/-- a new array of ints: its class is the one class of int arrays -/
theorem g_newi {cc : ByteArray} {A : Nat → Prop} (hexec : p.tables.exec = Jvm.exec) (hb : c.code = cc) (harr : (Cond.arrayClass .int).before args s = true) (hK : va_K G vwCl (TY K) s) (hP : va_P G vwCl ws H) (hD : va_D A ws) (hS : va_S A s.heap H locs) (hA : ∀ q : Nat, s.heap.size ≤ q → A q)
    {n : Int32} {N : Nat} (hn : ¬ n < 0) (hN : n.toNatClampNeg = N) (hbytes : N * 4 ≤ 536870912) (hcells : cells + 1 ≤ R.cells) (hslots : slots + N ≤ R.slots) (hdg : decode cc pc = .ok (.newarray .int, 2))
    (kk : ∀ (q : Nat) (H1 : Heap), va_P G vwCl (ws ++ [(q, .inl (K 0, N, .inl (fun _ => 0)))]) H1 → va_D A (ws ++ [(q, .inl (K 0, N, .inl (fun _ => 0)))]) → va_S A s.heap H1 locs →
      W p l e R s m args below meth c H1 locs (cells + 1) (slots + N) Q (F0 m (pc + 2) ls (.ref q :: rest))) : W p l e R s m args below meth c H locs cells slots Q (F0 m pc ls (.int n :: rest)) := by
  refine va_newa (atype := .int) (ty := .int) (a0 := (N, .inl (fun _ => 0))) hexec hb harr rfl hK hP hD hS hA (fun cA => rfl) hn hN hbytes hcells hslots hdg (fun q cA H1 hK1 hP1 hD1 hS1 => ?_)
  have e1 : s.vm.findClass ("[" ++ (FieldType.int).toString) = some cA := (hK1.2 6 (cA, .int) rfl).2
  have e2 : s.vm.findClass ("[" ++ (FieldType.int).toString) = some (K 0) := (hK.2 0 (K 0, .int) rfl).2
  have e3 : cA = K 0 := Option.some.inj (e1.symm.trans e2)
  subst e3
  exact kk q H1 hP1 hD1 hS1
theorem g_newz {cc : ByteArray} {A : Nat → Prop} (hexec : p.tables.exec = Jvm.exec) (hb : c.code = cc) (harr : (Cond.arrayClass .boolean).before args s = true) (hK : va_K G vwCl (TY K) s) (hP : va_P G vwCl ws H) (hD : va_D A ws) (hS : va_S A s.heap H locs) (hA : ∀ q : Nat, s.heap.size ≤ q → A q)
    {n : Int32} {N : Nat} (hn : ¬ n < 0) (hN : n.toNatClampNeg = N) (hbytes : N * 1 ≤ 536870912) (hcells : cells + 1 ≤ R.cells) (hslots : slots + N ≤ R.slots) (hdg : decode cc pc = .ok (.newarray .boolean, 2))
    (kk : ∀ (q : Nat) (H1 : Heap), va_P G vwCl (ws ++ [(q, .inl (K 1, N, .inl (fun _ => 0)))]) H1 → va_D A (ws ++ [(q, .inl (K 1, N, .inl (fun _ => 0)))]) → va_S A s.heap H1 locs →
      W p l e R s m args below meth c H1 locs (cells + 1) (slots + N) Q (F0 m (pc + 2) ls (.ref q :: rest))) : W p l e R s m args below meth c H locs cells slots Q (F0 m pc ls (.int n :: rest)) := by
  refine va_newa (atype := .boolean) (ty := .boolean) (a0 := (N, .inl (fun _ => 0))) hexec hb harr rfl hK hP hD hS hA (fun cA => rfl) hn hN hbytes hcells hslots hdg (fun q cA H1 hK1 hP1 hD1 hS1 => ?_)
  have e1 : s.vm.findClass ("[" ++ (FieldType.boolean).toString) = some cA := (hK1.2 6 (cA, .boolean) rfl).2
  have e2 : s.vm.findClass ("[" ++ (FieldType.boolean).toString) = some (K 1) := (hK.2 1 (K 1, .boolean) rfl).2
  have e3 : cA = K 1 := Option.some.inj (e1.symm.trans e2)
  subst e3
  exact kk q H1 hP1 hD1 hS1
theorem g_newiB {cc : ByteArray} {A : Nat → Prop} (hexec : p.tables.exec = Jvm.exec) (hb : c.code = cc) (harr : (Cond.arrayClass .int).before args s = true) (hK : va_K G vwCl (TY K) s) (hP : va_P G vwCl ws H) (hD : va_D A ws) (hS : va_S A s.heap H locs) (hA : ∀ q : Nat, s.heap.size ≤ q → A q)
    {n : Int32} {B : Nat} (hn : ¬ n < 0) (hB : n.toNatClampNeg ≤ B) (hbytes : B * 4 ≤ 536870912) (hcells : cells + 1 ≤ R.cells) (hslots : slots + B ≤ R.slots) (hdg : decode cc pc = .ok (.newarray .int, 2))
    (kk : ∀ (q : Nat) (H1 : Heap), va_P G vwCl (ws ++ [(q, .inl (K 0, n.toNatClampNeg, .inl (fun _ => 0)))]) H1 → va_D A (ws ++ [(q, .inl (K 0, n.toNatClampNeg, .inl (fun _ => 0)))]) → va_S A s.heap H1 locs →
      W p l e R s m args below meth c H1 locs (cells + 1) (slots + B) Q (F0 m (pc + 2) ls (.ref q :: rest))) : W p l e R s m args below meth c H locs cells slots Q (F0 m pc ls (.int n :: rest)) := by
  refine g_newi (N := n.toNatClampNeg) hexec hb harr hK hP hD hS hA hn rfl (by omega) hcells (by omega) hdg (fun q H1 hP hD hS => ?_)
  exact W.widen (k := cells + 1) (n := slots + B) (Nat.le_refl _) (by omega) (kk q H1 hP hD hS)
theorem g_newzB {cc : ByteArray} {A : Nat → Prop} (hexec : p.tables.exec = Jvm.exec) (hb : c.code = cc) (harr : (Cond.arrayClass .boolean).before args s = true) (hK : va_K G vwCl (TY K) s) (hP : va_P G vwCl ws H) (hD : va_D A ws) (hS : va_S A s.heap H locs) (hA : ∀ q : Nat, s.heap.size ≤ q → A q)
    {n : Int32} {B : Nat} (hn : ¬ n < 0) (hB : n.toNatClampNeg ≤ B) (hbytes : B * 4 ≤ 536870912) (hcells : cells + 1 ≤ R.cells) (hslots : slots + B ≤ R.slots) (hdg : decode cc pc = .ok (.newarray .boolean, 2))
    (kk : ∀ (q : Nat) (H1 : Heap), va_P G vwCl (ws ++ [(q, .inl (K 1, n.toNatClampNeg, .inl (fun _ => 0)))]) H1 → va_D A (ws ++ [(q, .inl (K 1, n.toNatClampNeg, .inl (fun _ => 0)))]) → va_S A s.heap H1 locs →
      W p l e R s m args below meth c H1 locs (cells + 1) (slots + B) Q (F0 m (pc + 2) ls (.ref q :: rest))) : W p l e R s m args below meth c H locs cells slots Q (F0 m pc ls (.int n :: rest)) := by
  refine g_newz (N := n.toNatClampNeg) hexec hb harr hK hP hD hS hA hn rfl (by omega) hcells (by omega) hdg (fun q H1 hP hD hS => ?_)
  exact W.widen (k := cells + 1) (n := slots + B) (Nat.le_refl _) (by omega) (kk q H1 hP hD hS)
end GC
/-- a number that a boolean may be -/
def bz (x : Int32) : Prop := x = 0 ∨ x = 1
theorem bz_nar {x : Int32} (h : bz x) : narrow .boolean (.int x) = .int x := by
  rcases h with rfl | rfl <;> decide +kernel
theorem bz_fit {x : Int32} (h : bz x) : fits .boolean (.int x) = true := by
  rcases h with rfl | rfl <;> decide +kernel

abbrev MSi (l : Launch) (y : MethodName) (cw : Cond) (rm : Room) (G : va_G) (K : Nat → ClassId) (ws : va_W) (av : List Value) (post : Int32 → Prop) : Prop := Met l y (cw :: GT) rm (gS G K ws av) (vp_Si post) 0 0 (fun _ => False)
abbrev MWi {S : Type} (l : Launch) (y : MethodName) (cw : Cond) (rm : Room) (G : va_G) (K : Nat → ClassId) (ws rs : va_W) (av : List Value) (sz : Nat) (post : Int32 → S → Prop) (W1 : S → va_W) (mc ms : Nat) : Prop := Met l y (cw :: GT) rm (gW G K ws rs av sz) (va_Qi post (fun u t => gB G K (W1 u) (va_A ws sz) t) (va_A ws sz)) mc ms (va_A ws sz)
abbrev MWv {S : Type} (l : Launch) (y : MethodName) (cw : Cond) (rm : Room) (G : va_G) (K : Nat → ClassId) (ws rs : va_W) (av : List Value) (sz : Nat) (post : S → Prop) (W1 : S → va_W) (mc ms : Nat) : Prop := Met l y (cw :: GT) rm (gW G K ws rs av sz) (va_Qv post (fun u t => gB G K (W1 u) (va_A ws sz) t) (va_A ws sz)) mc ms (va_A ws sz)
abbrev MWr {S : Type} (l : Launch) (y : MethodName) (cw : Cond) (rm : Room) (G : va_G) (K : Nat → ClassId) (ws rs : va_W) (av : List Value) (sz : Nat) (post : S → Prop) (W1 : S → Nat → va_W) (mc ms : Nat) : Prop := Met l y (cw :: GT) rm (gW G K ws rs av sz) (va_Qr post (fun u ra t => gB G K (W1 u ra) (va_A ws sz) t) (va_A ws sz)) mc ms (va_A ws sz)
theorem g_metSi {l : Launch} {y : MethodName} {cc : ByteArray} {maxL : Nat} {ret : Option FieldType} {rt : FieldType} {cw : Cond} {rm : Room} {G : va_G} {K : Nat → ClassId} {ws : va_W} {av : List Value} {post : Int32 → Prop}
    (hy : plainName y.cls = true) (hw : cw = Cond.code y cc maxL ret) (hrt : ret = some rt) (hn : (lg_sl av).length ≤ maxL)
    (body : ∀ (p : Program) (e : Env) (s : State) (m : MethodId) (below : List Frame) (meth : Method) (c : Code) (Q : State → Prop), p.tables.exec = Jvm.exec → c.code = cc → c.maxLocals = maxL → s.vm.findClass y.cls = some m.cls → (∀ w ∈ GT, w.before av.toArray s = true) → va_K G vwCl (TY K) s → gNw s → va_P G vwCl ws s.heap →
      (∀ (r : Int32) (ls : Array Slot) (pc : Nat), post r → narrow rt (.int r) = .int r → decode cc pc = .ok (.ireturn, 1) → W p l e rm s m av.toArray below meth c s.heap [] 0 0 Q (F0 m pc ls [.int r])) → ∀ ls : Array Slot, lv_has ls maxL (lv_args 0 av) →
      W p l e rm s m av.toArray below meth c s.heap [] 0 0 Q (F0 m 0 ls [])) : MSi l y cw rm G K ws av post := by
  refine g_metS (cc := cc) (maxL := maxL) (ret := ret) hy (by rw [hw]) hn ?_
  intro p e s m below meth c hx hb hr hlocks hml hown hts hK hN hP ls hl
  refine body p e s m below meth c _ hx hb hml hown hts hK hN hP (fun r ls pc h hnr hd => ?_) ls hl
  exact W.zret (ty := rt) hx hb (hr.trans hrt) hnr (fun t ht _ => ⟨r, rfl, h, ht⟩) (fun _ h => by cases h) hd
theorem g_metWi {l : Launch} {y : MethodName} {cc : ByteArray} {maxL : Nat} {ret : Option FieldType} {rt : FieldType} {cw : Cond} {rm : Room} {G : va_G} {K : Nat → ClassId} {ws rs : va_W} {av : List Value} {S : Type} {post : Int32 → S → Prop} {W1 : S → va_W} {sz mc ms : Nat}
    (hy : plainName y.cls = true) (hw : cw = Cond.code y cc maxL ret) (hrt : ret = some rt) (hn : (lg_sl av).length ≤ maxL)
    (body : ∀ (p : Program) (e : Env) (s : State) (m : MethodId) (below : List Frame) (meth : Method) (c : Code) (A : Nat → Prop) (Q : State → Prop), p.tables.exec = Jvm.exec → c.code = cc → c.maxLocals = maxL → s.vm.findClass y.cls = some m.cls → meth.name = y.name → (∀ w ∈ GT, w.before av.toArray s = true) → va_K G vwCl (TY K) s → gNw s → va_P G vwCl ws s.heap →
      va_D A ws → (∀ q : Nat, s.heap.size ≤ q → A q) → va_S A s.heap s.heap [] → va_P G vwCl rs s.heap → (∀ (k : Nat) (q : Nat × va_E), rs[k]? = some q → ¬ A q.1) →
      (∀ (r : Int32) (u : S) (H : Heap) (locs : List Loc) (ls : Array Slot) (pc : Nat), post r u → narrow rt (.int r) = .int r → va_P G vwCl (W1 u) H → va_D A (W1 u) → va_S A s.heap H locs → decode cc pc = .ok (.ireturn, 1) → W p l e rm s m av.toArray below meth c H locs mc ms Q (F0 m pc ls [.int r])) → ∀ ls : Array Slot, lv_has ls maxL (lv_args 0 av) →
      W p l e rm s m av.toArray below meth c s.heap [] 0 0 Q (F0 m 0 ls [])) : MWi l y cw rm G K ws rs av sz post W1 mc ms := by
  refine g_metW (cc := cc) (maxL := maxL) (ret := ret) hy (by rw [hw]) hn ?_
  intro p e s m below meth c hx hb hr hlocks hml hown hname hts hK hN hP hD hA hS hR rN ls hl
  refine body p e s m below meth c _ _ hx hb hml hown hname hts hK hN hP hD hA hS hR rN (fun r u H locs ls pc h hnr hP hD hS hd => ?_) ls hl
  exact W.zret (ty := rt) hx hb (hr.trans hrt) hnr (fun t ht hW => ⟨⟨r, u, rfl, h, by rw [ht]; exact hP, va_K.moved hW.alike hK, hD⟩, hS.F ht⟩) hS.2.2 hd
theorem g_metWv {l : Launch} {y : MethodName} {cc : ByteArray} {maxL : Nat} {ret : Option FieldType} {cw : Cond} {rm : Room} {G : va_G} {K : Nat → ClassId} {ws rs : va_W} {av : List Value} {S : Type} {post : S → Prop} {W1 : S → va_W} {sz mc ms : Nat}
    (hy : plainName y.cls = true) (hw : cw = Cond.code y cc maxL ret) (hrt : ret = none) (hn : (lg_sl av).length ≤ maxL)
    (body : ∀ (p : Program) (e : Env) (s : State) (m : MethodId) (below : List Frame) (meth : Method) (c : Code) (A : Nat → Prop) (Q : State → Prop), p.tables.exec = Jvm.exec → c.code = cc → c.maxLocals = maxL → s.vm.findClass y.cls = some m.cls → meth.name = y.name → (∀ w ∈ GT, w.before av.toArray s = true) → va_K G vwCl (TY K) s → gNw s → va_P G vwCl ws s.heap →
      va_D A ws → (∀ q : Nat, s.heap.size ≤ q → A q) → va_S A s.heap s.heap [] → va_P G vwCl rs s.heap → (∀ (k : Nat) (q : Nat × va_E), rs[k]? = some q → ¬ A q.1) →
      (∀ (u : S) (H : Heap) (locs : List Loc) (ls : Array Slot) (pc : Nat), post u → va_P G vwCl (W1 u) H → va_D A (W1 u) → va_S A s.heap H locs → decode cc pc = .ok (.return_, 1) → W p l e rm s m av.toArray below meth c H locs mc ms Q (F0 m pc ls [])) → ∀ ls : Array Slot, lv_has ls maxL (lv_args 0 av) →
      W p l e rm s m av.toArray below meth c s.heap [] 0 0 Q (F0 m 0 ls [])) : MWv l y cw rm G K ws rs av sz post W1 mc ms := by
  refine g_metW (cc := cc) (maxL := maxL) (ret := ret) hy (by rw [hw]) hn ?_
  intro p e s m below meth c hx hb hr hlocks hml hown hname hts hK hN hP hD hA hS hR rN ls hl
  refine body p e s m below meth c _ _ hx hb hml hown hname hts hK hN hP hD hA hS hR rN (fun u H locs ls pc h hP hD hS hd => ?_) ls hl
  exact W.vret hx hb (hr.trans hrt) (fun t ht hW => ⟨⟨u, rfl, h, by rw [ht]; exact hP, va_K.moved hW.alike hK, hD⟩, hS.F ht⟩) hS.2.2 hd
theorem g_metWr {l : Launch} {y : MethodName} {cc : ByteArray} {maxL : Nat} {ret : Option FieldType} {on : String} {cw : Cond} {rm : Room} {G : va_G} {K : Nat → ClassId} {ws rs : va_W} {av : List Value} {S : Type} {post : S → Prop} {W1 : S → Nat → va_W} {sz mc ms : Nat}
    (hy : plainName y.cls = true) (hw : cw = Cond.code y cc maxL ret) (hrt : ret = some (.object on)) (hn : (lg_sl av).length ≤ maxL)
    (body : ∀ (p : Program) (e : Env) (s : State) (m : MethodId) (below : List Frame) (meth : Method) (c : Code) (A : Nat → Prop) (Q : State → Prop), p.tables.exec = Jvm.exec → c.code = cc → c.maxLocals = maxL → s.vm.findClass y.cls = some m.cls → meth.name = y.name → (∀ w ∈ GT, w.before av.toArray s = true) → va_K G vwCl (TY K) s → gNw s → va_P G vwCl ws s.heap →
      va_D A ws → (∀ q : Nat, s.heap.size ≤ q → A q) → va_S A s.heap s.heap [] → va_P G vwCl rs s.heap → (∀ (k : Nat) (q : Nat × va_E), rs[k]? = some q → ¬ A q.1) →
      (∀ (u : S) (ra : Nat) (H : Heap) (locs : List Loc) (ls : Array Slot) (pc : Nat), post u → va_P G vwCl (W1 u ra) H → va_D A (W1 u ra) → va_S A s.heap H locs → decode cc pc = .ok (.areturn, 1) → W p l e rm s m av.toArray below meth c H locs mc ms Q (F0 m pc ls [.ref ra])) → ∀ ls : Array Slot, lv_has ls maxL (lv_args 0 av) →
      W p l e rm s m av.toArray below meth c s.heap [] 0 0 Q (F0 m 0 ls [])) : MWr l y cw rm G K ws rs av sz post W1 mc ms := by
  refine g_metW (cc := cc) (maxL := maxL) (ret := ret) hy (by rw [hw]) hn ?_
  intro p e s m below meth c hx hb hr hlocks hml hown hname hts hK hN hP hD hA hS hR rN ls hl
  refine body p e s m below meth c _ _ hx hb hml hown hname hts hK hN hP hD hA hS hR rN (fun u ra H locs ls pc h hP hD hS hd => ?_) ls hl
  exact W.aret (rt := .object on) hx hb (hr.trans hrt) (Or.inl ⟨on, rfl⟩) (Or.inr ⟨ra, rfl⟩) (fun t ht hW => ⟨⟨u, ra, rfl, h, by rw [ht]; exact hP, va_K.moved hW.alike hK, hD⟩, hS.F ht⟩) hS.2.2 hd

/-! pieces: a pool -/
def pcs (PF : Nat → Int32 × Int32 × Int32) : Nat → va_E := fun a => .inr (7, [.int (PF a).1, .int (PF a).2.1, .int (PF a).2.2])
theorem gJ_nil {ws : va_W} : gJ ws [] := fun k q h => by simp at h
theorem gJ_nil2 {rs : va_W} : gJ [] rs := fun k q _ j p h => by simp at h
theorem va_P_nil {G : va_G} {H : Heap} : va_P G vwCl [] H := fun k q h => by simp at h
theorem va_D_nil {A : Nat → Prop} : va_D A [] := ⟨fun i j p q h => by simp at h, fun k q h => by simp at h⟩
theorem gPl1 {G : va_G} {X : va_W} {LP : List Nat} {f : Nat → va_E} {H : Heap} {a : Nat} (hP : va_P G vwCl (X ++ va_pl LP f) H) (ha : a ∈ LP) : va_P G vwCl [(a, f a)] H := by
  obtain ⟨k, hk⟩ := va_pl_get (X := X) (f := f) ha
  intro j q hq
  match j, hq with
  | 0, hq => cases hq; exact hP k _ hk
theorem gPl2 {G : va_G} {X : va_W} {LP : List Nat} {f : Nat → va_E} {H : Heap} {a b : Nat} (hP : va_P G vwCl (X ++ va_pl LP f) H) (ha : a ∈ LP) (hb : b ∈ LP) : va_P G vwCl [(a, f a), (b, f b)] H := by
  obtain ⟨k, hk⟩ := va_pl_get (X := X) (f := f) ha
  obtain ⟨k2, hk2⟩ := va_pl_get (X := X) (f := f) hb
  intro j q hq
  match j, hq with
  | 0, hq => cases hq; exact hP k _ hk
  | 1, hq => cases hq; exact hP k2 _ hk2
theorem g_pcs {PF : Nat → Int32 × Int32 × Int32} {q : Nat} {x y z : Int32} : va_up (pcs PF) q (.inr (7, [.int x, .int y, .int z])) = pcs (va_up PF q (x, y, z)) := by
  funext a
  by_cases h : a = q
  · simp [va_up, pcs, h]
  · simp [va_up, pcs, h]
theorem g_push {X : va_W} {LP : List Nat} {PF : Nat → Int32 × Int32 × Int32} {q : Nat} {x y z : Int32} (h : q ∉ LP) : (X ++ va_pl LP (pcs PF)) ++ [(q, .inr (7, [.int x, .int y, .int z]))] = X ++ va_pl (LP ++ [q]) (pcs (va_up PF q (x, y, z))) := by
  rw [List.append_assoc, va_pl_push h, g_pcs]
theorem g_pushP {G : va_G} {H : Heap} {X : va_W} {LP : List Nat} {PF : Nat → Int32 × Int32 × Int32} {q : Nat} {x y z : Int32} (h : q ∉ LP) (hP : va_P G vwCl ((X ++ va_pl LP (pcs PF)) ++ [(q, .inr (7, [.int x, .int y, .int z]))]) H) : va_P G vwCl (X ++ va_pl (LP ++ [q]) (pcs (va_up PF q (x, y, z)))) H := by
  rw [← g_push h]; exact hP
theorem g_pushD {A : Nat → Prop} {X : va_W} {LP : List Nat} {PF : Nat → Int32 × Int32 × Int32} {q : Nat} {x y z : Int32} (h : q ∉ LP) (hD : va_D A ((X ++ va_pl LP (pcs PF)) ++ [(q, .inr (7, [.int x, .int y, .int z]))])) : va_D A (X ++ va_pl (LP ++ [q]) (pcs (va_up PF q (x, y, z)))) := by
  rw [← g_push h]; exact hD
theorem g_fresh {A : Nat → Prop} {X : va_W} {LP : List Nat} {f : Nat → va_E} {q : Nat} {e : va_E} (hD : va_D A ((X ++ [(q, e)]) ++ va_pl LP f)) : q ∉ LP := va_pl_fresh2 hD.swap
section GP
variable {p : Program} {l : Launch} {e : Env} {R : Room} {s : State} {m : MethodId} {args : Array Value} {below : List Frame} {meth : Method} {c : Code} {H : Heap} {locs : List Loc} {cells slots : Nat} {Q : State → Prop}
variable {pc : Nat} {ls : Array Slot} {rest st0 : List Value} {a : Array Value} {A : Nat → Prop} {mc ms : Nat} {G : va_G} {K : Nat → ClassId} {X wc wr pl ws : va_W}
/-- a call that writes nothing that was there: all cells stay, new ones come behind -/
theorem g_callr0 {S : Type} {post : S → Prop} {W1 : S → Nat → va_W} (hr : va_Run p l e R s m args below meth c H locs cells slots mc ms (F0 m pc ls st0) rest (va_Qr post (fun u ra t => gB G K (W1 u ra) (va_A [] H.size) t) (va_A [] H.size) a) (va_A [] H.size)) (hP : va_P G vwCl ws H) (hD : va_D A ws) (hS : va_S A s.heap H locs) (hA : ∀ q : Nat, s.heap.size ≤ q → A q)
    (kk : ∀ (u : S) (ra : Nat) (H1 : Heap) (locs1 : List Loc), post u → va_P G vwCl (ws ++ W1 u ra) H1 → va_D A (ws ++ W1 u ra) → va_S A s.heap H1 locs1 → W p l e R s m args below meth c H1 locs1 (cells + mc) (slots + ms) Q (F0 m (pc + 3) ls (.ref ra :: rest))) : W p l e R s m args below meth c H locs cells slots Q (F0 m pc ls st0) := by
  have hF : ∀ q, va_A [] H.size q → A q := by
    intro q h
    rcases h with ⟨k, e, h⟩ | h
    · simp at h
    · exact hA q (Nat.le_trans hS.1 h)
  have hnew : ∀ q, va_A [] H.size q → H.size ≤ q := by
    intro q h
    rcases h with ⟨k, e, h⟩ | h
    · simp at h
    · exact h
  refine va_callr hr hS (fun q _ h => hF q h) hF (fun u ra t H1 locs ht hvm hw hB hz1 hk1 hS => ?_)
  obtain ⟨hP1, hK1, hD1⟩ := hB
  rw [ht] at hP1
  refine kk u ra H1 locs hw ((hP.kept (fun k q hq => hk1 q.1 (hP k q hq).lt (fun z => Nat.not_lt.mpr (hnew _ z) (hP k q hq).lt))).app hP1) (va_D.app hD (hD1.weaken (fun k q _ h => hF q.1 h)) (fun i j x y hx hy hxy => ?_)) hS
  have h1 := (hP i x hx).lt
  have h2 := hnew _ (hD1.2 j y hy)
  rw [hxy] at h1
  exact Nat.not_lt.mpr h2 h1
theorem g_calliP {S : Type} {post : Int32 → S → Prop} {W1 P1 : S → va_W} (hr : va_Run p l e R s m args below meth c H locs cells slots mc ms (F0 m pc ls st0) rest (va_Qi post (fun u t => gB G K (W1 u ++ P1 u) (va_A (wc ++ pl) H.size) t) (va_A (wc ++ pl) H.size) a) (va_A (wc ++ pl) H.size)) (hP : va_P G vwCl (X ++ pl) H) (hD : va_D A (X ++ pl)) (hS : va_S A s.heap H locs) (hA : ∀ q : Nat, s.heap.size ≤ q → A q)
    (isC isR : List Nat) (hC : isC.map (fun i => X[i]?) = wc.map some) (hR : isR.map (fun i => X[i]?) = wr.map some) (hn : va_nd isR = true) (hdis : ∀ i ∈ isR, i ∉ isC)
    (kk : ∀ (r : Int32) (u : S) (H1 : Heap) (locs1 : List Loc), post r u → va_P G vwCl ((wr ++ W1 u) ++ P1 u) H1 → va_D A ((wr ++ W1 u) ++ P1 u) → va_S A s.heap H1 locs1 → W p l e R s m args below meth c H1 locs1 (cells + mc) (slots + ms) Q (F0 m (pc + 3) ls (.int r :: rest))) : W p l e R s m args below meth c H locs cells slots Q (F0 m pc ls st0) := by
  have hFc := va_freeP (cx := wc) hD hS hA isC hC
  refine va_calli hr hS (fun q _ h => hFc q h) hFc (fun r u t H1 locs ht hvm hw hB hz1 hk1 hS => ?_)
  obtain ⟨hP1, hK1, hD1⟩ := hB
  rw [ht] at hP1
  obtain ⟨hP, hD⟩ := va_joinP (wr := wr) (rx := W1 u) hP hD isC isR hC hR hn hdis hk1 hFc hP1 hD1
  exact kk r u H1 locs hw hP hD hS
theorem g_callvP {S : Type} {post : S → Prop} {W1 P1 : S → va_W} (hr : va_Run p l e R s m args below meth c H locs cells slots mc ms (F0 m pc ls st0) rest (va_Qv post (fun u t => gB G K (W1 u ++ P1 u) (va_A (wc ++ pl) H.size) t) (va_A (wc ++ pl) H.size) a) (va_A (wc ++ pl) H.size)) (hP : va_P G vwCl (X ++ pl) H) (hD : va_D A (X ++ pl)) (hS : va_S A s.heap H locs) (hA : ∀ q : Nat, s.heap.size ≤ q → A q)
    (isC isR : List Nat) (hC : isC.map (fun i => X[i]?) = wc.map some) (hR : isR.map (fun i => X[i]?) = wr.map some) (hn : va_nd isR = true) (hdis : ∀ i ∈ isR, i ∉ isC)
    (kk : ∀ (u : S) (H1 : Heap) (locs1 : List Loc), post u → va_P G vwCl ((wr ++ W1 u) ++ P1 u) H1 → va_D A ((wr ++ W1 u) ++ P1 u) → va_S A s.heap H1 locs1 → W p l e R s m args below meth c H1 locs1 (cells + mc) (slots + ms) Q (F0 m (pc + 3) ls rest)) : W p l e R s m args below meth c H locs cells slots Q (F0 m pc ls st0) := by
  have hFc := va_freeP (cx := wc) hD hS hA isC hC
  refine va_callv hr hS (fun q _ h => hFc q h) hFc (fun u t H1 locs ht hvm hw hB hz1 hk1 hS => ?_)
  obtain ⟨hP1, hK1, hD1⟩ := hB
  rw [ht] at hP1
  obtain ⟨hP, hD⟩ := va_joinP (wr := wr) (rx := W1 u) hP hD isC isR hC hR hn hdis hk1 hFc hP1 hD1
  exact kk u H1 locs hw hP hD hS
theorem g_calliQ {S : Type} {post : Int32 → S → Prop} {W1 : S → va_W} (hr : va_Run p l e R s m args below meth c H locs cells slots mc ms (F0 m pc ls st0) rest (va_Qi post (fun u t => gB G K (W1 u) (va_A wc H.size) t) (va_A wc H.size) a) (va_A wc H.size)) (hP : va_P G vwCl (X ++ pl) H) (hD : va_D A (X ++ pl)) (hS : va_S A s.heap H locs) (hA : ∀ q : Nat, s.heap.size ≤ q → A q)
    (isC isR : List Nat) (hC : isC.map (fun i => X[i]?) = wc.map some) (hR : isR.map (fun i => X[i]?) = wr.map some) (hn : va_nd isR = true) (hdis : ∀ i ∈ isR, i ∉ isC)
    (kk : ∀ (r : Int32) (u : S) (H1 : Heap) (locs1 : List Loc), post r u → va_P G vwCl ((wr ++ W1 u) ++ pl) H1 → va_D A ((wr ++ W1 u) ++ pl) → va_S A s.heap H1 locs1 → W p l e R s m args below meth c H1 locs1 (cells + mc) (slots + ms) Q (F0 m (pc + 3) ls (.int r :: rest))) : W p l e R s m args below meth c H locs cells slots Q (F0 m pc ls st0) := by
  have hFc : ∀ q, va_A wc H.size q → A q := fun q h => va_freeP (cx := wc) hD hS hA isC hC q (by
    rcases h with ⟨k, e, h⟩ | h
    · exact Or.inl ⟨k, e, by rw [List.getElem?_append_left (List.getElem?_eq_some_iff.mp h).1]; exact h⟩
    · exact Or.inr h)
  refine va_calli hr hS (fun q _ h => hFc q h) hFc (fun r u t H1 locs ht hvm hw hB hz1 hk1 hS => ?_)
  obtain ⟨hP1, hK1, hD1⟩ := hB
  rw [ht] at hP1
  obtain ⟨hP, hD⟩ := va_joinQ (wr := wr) (w1 := W1 u) hP hD isC isR hC hR hn hdis hk1 hFc hP1 hD1
  exact kk r u H1 locs hw hP hD hS
theorem g_callvQ {S : Type} {post : S → Prop} {W1 : S → va_W} (hr : va_Run p l e R s m args below meth c H locs cells slots mc ms (F0 m pc ls st0) rest (va_Qv post (fun u t => gB G K (W1 u) (va_A wc H.size) t) (va_A wc H.size) a) (va_A wc H.size)) (hP : va_P G vwCl (X ++ pl) H) (hD : va_D A (X ++ pl)) (hS : va_S A s.heap H locs) (hA : ∀ q : Nat, s.heap.size ≤ q → A q)
    (isC isR : List Nat) (hC : isC.map (fun i => X[i]?) = wc.map some) (hR : isR.map (fun i => X[i]?) = wr.map some) (hn : va_nd isR = true) (hdis : ∀ i ∈ isR, i ∉ isC)
    (kk : ∀ (u : S) (H1 : Heap) (locs1 : List Loc), post u → va_P G vwCl ((wr ++ W1 u) ++ pl) H1 → va_D A ((wr ++ W1 u) ++ pl) → va_S A s.heap H1 locs1 → W p l e R s m args below meth c H1 locs1 (cells + mc) (slots + ms) Q (F0 m (pc + 3) ls rest)) : W p l e R s m args below meth c H locs cells slots Q (F0 m pc ls st0) := by
  have hFc : ∀ q, va_A wc H.size q → A q := fun q h => va_freeP (cx := wc) hD hS hA isC hC q (by
    rcases h with ⟨k, e, h⟩ | h
    · exact Or.inl ⟨k, e, by rw [List.getElem?_append_left (List.getElem?_eq_some_iff.mp h).1]; exact h⟩
    · exact Or.inr h)
  refine va_callv hr hS (fun q _ h => hFc q h) hFc (fun u t H1 locs ht hvm hw hB hz1 hk1 hS => ?_)
  obtain ⟨hP1, hK1, hD1⟩ := hB
  rw [ht] at hP1
  obtain ⟨hP, hD⟩ := va_joinQ (wr := wr) (w1 := W1 u) hP hD isC isR hC hR hn hdis hk1 hFc hP1 hD1
  exact kk u H1 locs hw hP hD hS
end GP

/-! three references in an array -/
def el3 (a b c : Option Nat) : Nat → Option Nat := fun j => if j = 0 then a else if j = 1 then b else if j = 2 then c else none
abbrev MSr (l : Launch) (y : MethodName) (cw : Cond) (rm : Room) (G : va_G) (K : Nat → ClassId) (ws : va_W) (av : List Value) (post : Prop) (z : Nat) : Prop := Met l y (cw :: GT) rm (gS G K ws av) (va_Sr (fun k => k = z ∧ post) Value.ref) 0 0 (fun _ => False)
theorem g_metSr {l : Launch} {y : MethodName} {cc : ByteArray} {maxL : Nat} {ret : Option FieldType} {on : String} {cw : Cond} {rm : Room} {G : va_G} {K : Nat → ClassId} {ws : va_W} {av : List Value} {post : Prop} {z : Nat}
    (hy : plainName y.cls = true) (hw : cw = Cond.code y cc maxL ret) (hrt : ret = some (.object on)) (hn : (lg_sl av).length ≤ maxL)
    (body : ∀ (p : Program) (e : Env) (s : State) (m : MethodId) (below : List Frame) (meth : Method) (c : Code) (Q : State → Prop), p.tables.exec = Jvm.exec → c.code = cc → c.maxLocals = maxL → s.vm.findClass y.cls = some m.cls → (∀ w ∈ GT, w.before av.toArray s = true) → va_K G vwCl (TY K) s → gNw s → va_P G vwCl ws s.heap →
      (∀ (ls : Array Slot) (pc : Nat), post → decode cc pc = .ok (.areturn, 1) → W p l e rm s m av.toArray below meth c s.heap [] 0 0 Q (F0 m pc ls [.ref z])) → ∀ ls : Array Slot, lv_has ls maxL (lv_args 0 av) →
      W p l e rm s m av.toArray below meth c s.heap [] 0 0 Q (F0 m 0 ls [])) : MSr l y cw rm G K ws av post z := by
  refine g_metS (cc := cc) (maxL := maxL) (ret := ret) hy (by rw [hw]) hn ?_
  intro p e s m below meth c hx hb hr hlocks hml hown hts hK hN hP ls hl
  refine body p e s m below meth c _ hx hb hml hown hts hK hN hP (fun ls pc h hd => ?_) ls hl
  exact W.aret (rt := .object on) hx hb (hr.trans hrt) (Or.inl ⟨on, rfl⟩) (Or.inr ⟨z, rfl⟩) (fun t ht _ => ⟨z, rfl, ⟨rfl, h⟩, ht⟩) (fun _ h => by cases h) hd

theorem el3_n : (fun _ => none) = el3 none none none := by
  funext j
  simp [el3]
theorem el3_0 {a b c v : Option Nat} : va_up (el3 a b c) (0 : Int32).toNatClampNeg v = el3 v b c := by
  funext j
  show (if j = 0 then v else el3 a b c j) = el3 v b c j
  by_cases h : j = 0 <;> simp [el3, h]
theorem el3_1 {a b c v : Option Nat} : va_up (el3 a b c) (1 : Int32).toNatClampNeg v = el3 a v c := by
  funext j
  show (if j = 1 then v else el3 a b c j) = el3 a v c j
  by_cases h : j = 1
  · simp [el3, h]
  · simp [el3, h]
theorem el3_2 {a b c v : Option Nat} : va_up (el3 a b c) (2 : Int32).toNatClampNeg v = el3 a b v := by
  funext j
  show (if j = 2 then v else el3 a b c j) = el3 a b v j
  by_cases h : j = 2
  · simp [el3, h]
  · simp [el3, h]
theorem gJ_A {A : Nat → Prop} {wc rc : va_W} (hDc : va_D A wc) (hN : ∀ (k : Nat) (q : Nat × va_E), rc[k]? = some q → ¬ A q.1) : gJ wc rc := fun k q hq j p hp e => hN k q hq (by rw [← e]; exact hDc.2 j p hp)
theorem gN_sub {A : Nat → Prop} {rs rc : va_W} (rN : ∀ (k : Nat) (q : Nat × va_E), rs[k]? = some q → ¬ A q.1) (is : List Nat) (h : is.map (fun i => rs[i]?) = rc.map some) : ∀ (k : Nat) (q : Nat × va_E), rc[k]? = some q → ¬ A q.1 := by
  intro k q hq
  obtain ⟨i, -, h1⟩ := g_at h k q hq
  exact rN i q h1
theorem gN_part {A : Nat → Prop} {X cx pl : va_W} (rN : ∀ (k : Nat) (q : Nat × va_E), (X ++ pl)[k]? = some q → ¬ A q.1) (is : List Nat) (h : is.map (fun i => X[i]?) = cx.map some) : ∀ (k : Nat) (q : Nat × va_E), (cx ++ pl)[k]? = some q → ¬ A q.1 := fun k q hq => rN _ q (va_part is h k q hq)
theorem gJ_wsP {A : Nat → Prop} {X pl wc rc : va_W} (hD : va_D A (X ++ pl)) (isC isK : List Nat) (hC : isC.map (fun i => X[i]?) = wc.map some) (hK : isK.map (fun i => X[i]?) = rc.map some) (hdis : ∀ i ∈ isK, i ∉ isC) : gJ wc (rc ++ pl) := by
  intro k q hq j p hp e
  obtain ⟨i2, hi2, h2⟩ := g_at hC j p hp
  have hi2' : i2 < X.length := (List.getElem?_eq_some_iff.mp h2).1
  have h2' : (X ++ pl)[i2]? = some p := by rw [List.getElem?_append_left hi2']; exact h2
  have h3 := va_part isK hK k q hq
  have h4 := hD.1 _ _ p q h2' h3 e
  by_cases hk : k < rc.length
  · rw [if_pos hk] at h4
    rw [List.getElem?_append_left hk] at hq
    obtain ⟨i, h5, h6⟩ := va_in_of isK hK hq
    rw [h5] at h4
    have h4' : i2 = i := h4
    subst h4'
    exact hdis _ (List.mem_of_getElem? h5) hi2
  · rw [if_neg hk] at h4
    omega
section GQ
variable {p : Program} {l : Launch} {e : Env} {R : Room} {s : State} {m : MethodId} {args : Array Value} {below : List Frame} {meth : Method} {c : Code} {H : Heap} {locs : List Loc} {cells slots : Nat} {Q : State → Prop}
variable {pc : Nat} {ls : Array Slot} {rest : List Value} {A : Nat → Prop} {G : va_G} {K : Nat → ClassId} {ws : va_W}
theorem g_newq {cc : ByteArray} {t : Nat} {own C : String} {index : Nat} (ht : (TY K)[t]? = some (K t, .object C)) (hexec : p.tables.exec = Jvm.exec) (hb : c.code = cc) (hown : s.vm.findClass own = some m.cls) (hclink : (Cond.classLink own index C).before args s = true) (hover : va_AO C s) (hK : va_K G vwCl (TY K) s) (hP : va_P G vwCl ws H) (hD : va_D A ws) (hS : va_S A s.heap H locs) (hA : ∀ q : Nat, s.heap.size ≤ q → A q)
    {n : Int32} {N : Nat} (hn : ¬ n < 0) (hN : n.toNatClampNeg = N) (hbytes : N * 4 ≤ 536870912) (hcells : cells + 1 ≤ R.cells) (hslots : slots + N ≤ R.slots) (hdg : decode cc pc = .ok (.anewarray index, 3))
    (kk : ∀ (q : Nat) (H1 : Heap), va_P G vwCl (ws ++ [(q, .inl (K t, N, .inr (.inr (.inr (.inr (fun _ => none))))))]) H1 → va_D A (ws ++ [(q, .inl (K t, N, .inr (.inr (.inr (.inr (fun _ => none))))))]) → va_S A s.heap H1 locs →
      W p l e R s m args below meth c H1 locs (cells + 1) (slots + N) Q (F0 m (pc + 3) ls (.ref q :: rest))) : W p l e R s m args below meth c H locs cells slots Q (F0 m pc ls (.int n :: rest)) := by
  refine va_newq hexec hb hown hclink hover hK hP hD hS hA hn hN hbytes hcells hslots hdg (fun q cA H1 hK1 hP1 hD1 hS1 => ?_)
  obtain ⟨k1, c1, x1, x2, x3, x4⟩ := (hK1.2 6 (cA, .object C) rfl).2
  obtain ⟨k2, c2, y1, y2, y3, y4⟩ := (hK.2 t (K t, .object C) ht).2
  have e3 : cA = K t := Option.some.inj (x4.symm.trans y4)
  subst e3
  exact kk q H1 hP1 hD1 hS1
theorem g_newq3 {cc : ByteArray} {t : Nat} {own C : String} {index : Nat} (ht : (TY K)[t]? = some (K t, .object C)) (hexec : p.tables.exec = Jvm.exec) (hb : c.code = cc) (hown : s.vm.findClass own = some m.cls) (hclink : (Cond.classLink own index C).before args s = true) (hover : va_AO C s) (hK : va_K G vwCl (TY K) s) (hP : va_P G vwCl ws H) (hD : va_D A ws) (hS : va_S A s.heap H locs) (hA : ∀ q : Nat, s.heap.size ≤ q → A q)
    {n : Int32} {N : Nat} (hn : ¬ n < 0) (hN : n.toNatClampNeg = N) (hbytes : N * 4 ≤ 536870912) (hcells : cells + 1 ≤ R.cells) (hslots : slots + N ≤ R.slots) (hdg : decode cc pc = .ok (.anewarray index, 3))
    (kk : ∀ (q : Nat) (H1 : Heap), va_P G vwCl (ws ++ [(q, .inl (K t, N, .inr (.inr (.inr (.inr (el3 none none none))))))]) H1 → va_D A (ws ++ [(q, .inl (K t, N, .inr (.inr (.inr (.inr (el3 none none none))))))]) → va_S A s.heap H1 locs →
      W p l e R s m args below meth c H1 locs (cells + 1) (slots + N) Q (F0 m (pc + 3) ls (.ref q :: rest))) : W p l e R s m args below meth c H locs cells slots Q (F0 m pc ls (.int n :: rest)) := by
  rw [← el3_n] at kk
  exact g_newq ht hexec hb hown hclink hover hK hP hD hS hA hn hN hbytes hcells hslots hdg kk
end GQ
