/-- the places of the words about exceptions, and of the law's own methods -/
def XI : List Nat := [17, 18, 19, 20, 21, 28, 29, 824, 825, 826, 827, 828, 833, 834, 842, 843, 844, 845, 846, 847, 848, 849, 850, 851, 852, 853, 854, 855, 856, 857, 858, 859, 861, 863, 864, 866, 867, 868, 870, 872, 873, 874, 875, 876, 877, 878, 879, 880, 881, 882, 884, 885, 886, 895, 896, 898, 899, 900, 901, 902, 903, 904, 905, 906, 907, 914, 915, 916]
/-! Exceptions: words, calls that throw and are caught, methods with a table of handlers -/
def XT : List Cond := (XI.filterMap (fun i => tables_1[i]?)).filter goodWord
theorem XT_in : ∀ w ∈ XT, w ∈ tables_1 := by
  intro w h
  unfold XT at h
  obtain ⟨i, -, hi⟩ := List.mem_filterMap.mp (List.mem_filter.mp h).1
  exact List.mem_of_getElem? hi
theorem XT_good : ∀ w ∈ XT, (w.onTables && w.keeps) = true ∨ ∃ ty, w = .arrayClass ty := fun w h => good_of_word (List.mem_filter.mp h).2
def ET : List Cond := XT ++ GT
theorem XT_ET : ∀ w ∈ XT, w ∈ ET := fun w h => List.mem_append_left _ h
theorem GT_ET : ∀ w ∈ GT, w ∈ ET := fun w h => List.mem_append_right _ h
theorem ET_good : ∀ w ∈ ET, (w.onTables && w.keeps) = true ∨ ∃ ty, w = .arrayClass ty := fun w h => (List.mem_append.mp h).elim (XT_good w) (GT_good w)
theorem gGoodVX {cw : Cond} {own C : String} {idx : Nat} {y : MethodName} (h1 : Cond.methodLink own idx y ∈ ET) (h2 : Cond.instanceMethod y ∈ ET) (h3 : Cond.selects C y y ∈ ET) (h4 : Cond.initialized C ∈ ET) (h : cw ∈ ET) : GoodIn ET (wsV own idx C y (cw :: ET)) := by
  intro w hw
  simp only [wsV, List.cons_append, List.nil_append, List.mem_cons] at hw
  rcases hw with rfl | rfl | rfl | rfl | rfl | hw
  · exact ⟨h1, ET_good _ h1⟩
  · exact ⟨h2, ET_good _ h2⟩
  · exact ⟨h3, ET_good _ h3⟩
  · exact ⟨h4, ET_good _ h4⟩
  · exact ⟨h, ET_good _ h⟩
  · exact ⟨hw, ET_good _ hw⟩
theorem va_Zq.isRef {C n d : String} {A : Nat → Prop} {args : Array Value} {U : State} (h : va_Zq C n d A U U.heap) : (Cond.isRef (.static C n d)).before args U = true := by
  have go : ∀ v, va_Z C n d v A U U.heap → (Term.static C n d).eval args U none [] U = some v := fun v ⟨cf, kf, fi, f, a, cl, h1, h2, h3, h4, h5, h6, h7, h8⟩ => Term.static_eval h1 h2 h4 h5 h6 h7
  rcases h with h | ⟨t, h⟩
  · simp [Cond.before, Cond.holds, Cond.value, go _ h]
  · simp [Cond.before, Cond.holds, Cond.value, go _ h]
/-- a static field's place, as the tables and the heap have it -/
def LSt (C n d : String) (A : Nat → Prop) (U : State) (H : Heap) : Prop := ∃ (c : ClassId) (k : Class) (i : Nat) (f : Field) (a : Nat) (cl : Cell), U.vm.findClass C = some c ∧ U.fieldFound? C n d = some (c, k, i, f) ∧ f.isStatic = true ∧ k.statics = some a ∧ H[a]? = some cl ∧ cl.vm.isStatics = true ∧ cl.cls = c ∧ f.slot < cl.slots.size ∧ k.staticTypes[f.slot]? = some f.type ∧ ¬ A a
theorem LSt.of {C n d : String} {A : Nat → Prop} {args : Array Value} {s : State} (h : (Cond.laysStatic C n d).before args s = true) (hA : ∀ a : Nat, a < s.heap.size → ¬ A a) : LSt C n d A s s.heap := by
  obtain ⟨c, k, i, f, a, cl, h1, h2, h3, h4, h5, h6, h7, h8, h9⟩ := Cond.laysStatic_spec h
  exact ⟨c, k, i, f, a, cl, h1, h2, h3, h4, h5, h6, h7, h8, h9, hA a (Array.getElem?_eq_some_iff.mp h5).1⟩
theorem LSt.moved {C n d : String} {A : Nat → Prop} {u U : State} {H : Heap} (hvm : u.vm.Alike U.vm) (h : LSt C n d A u H) : LSt C n d A U H := by
  obtain ⟨c, k, i, f, a, cl, h1, h2, h3, h4, h5, h6, h7, h8, h9, h10⟩ := h
  obtain ⟨k', hi', he⟩ := State.fieldFound?_setVm hvm h2
  exact ⟨c, k', i, f, a, cl, by rw [hvm.findClass]; exact h1, hi', h3, by rw [he]; exact h4, h5, h6, h7, h8, by rw [he]; exact h9, h10⟩
theorem LSt.kept {C n d : String} {A : Nat → Prop} {U : State} {H H1 : Heap} (h : LSt C n d A U H) (hq : ∀ a : Nat, a < H.size → ¬ A a → H1[a]? = H[a]?) : LSt C n d A U H1 := by
  obtain ⟨c, k, i, f, a, cl, h1, h2, h3, h4, h5, h6, h7, h8, h9, h10⟩ := h
  exact ⟨c, k, i, f, a, cl, h1, h2, h3, h4, by rw [hq a (Array.getElem?_eq_some_iff.mp h5).1 h10]; exact h5, h6, h7, h8, h9, h10⟩
theorem LSt.narrow {C n d : String} {A B : Nat → Prop} {U : State} {H : Heap} (h : LSt C n d A U H) (hAB : ∀ q, B q → A q) : LSt C n d B U H := by
  obtain ⟨c, k, i, f, a, cl, h1, h2, h3, h4, h5, h6, h7, h8, h9, h10⟩ := h
  exact ⟨c, k, i, f, a, cl, h1, h2, h3, h4, h5, h6, h7, h8, h9, fun z => h10 (hAB a z)⟩
theorem LSt.use {C n d : String} {A : Nat → Prop} {args : Array Value} {U : State} (h : LSt C n d A U U.heap) : (Cond.laysStatic C n d).before args U = true := by
  obtain ⟨c, k, i, f, a, cl, h1, h2, h3, h4, h5, h6, h7, h8, h9, h10⟩ := h
  simp [Cond.before, Cond.holds, Cond.value, h1, h2, h3, h4, h5, h6, h7, h8, h9]
def Dcl (x : MethodName) (U : State) : Prop := (Cond.declares x).before #[] U = true
theorem Dcl.of {x : MethodName} {A : Array Value} {U : State} (h : (Cond.declares x).before A U = true) : Dcl x U := va_any rfl h
theorem Dcl.use {x : MethodName} {A : Array Value} {U : State} (h : Dcl x U) : (Cond.declares x).before A U = true := va_any rfl h
theorem Dcl.moved {x : MethodName} {u U : State} (hvm : u.vm.Alike U.vm) (h : Dcl x u) : Dcl x U := by
  have h1 : (Cond.declares x).before #[] (u.setVm U.vm) = true := by
    rw [Cond.declares_setVm hvm]
    exact h
  have e := Cond.onTables_vm (A := #[]) (A' := #[]) (U := u) (U' := U) U.vm (Cond.declares x) rfl
  have hU : U.setVm U.vm = U := rfl
  rw [hU] at e
  unfold Dcl
  rw [← e]
  exact h1
def Cst (C T : String) (U : State) : Prop := ∃ c t : ClassId, U.vm.findClass C = some c ∧ U.vm.findClass T = some t ∧ U.vm.assignable c t = true
theorem Cst.of {C T : String} {A : Array Value} {U : State} (h : (Cond.castable C T).before A U = true) : Cst C T U := Cond.castable_spec h
theorem Cst.moved {C T : String} {u U : State} (hvm : u.vm.Alike U.vm) (h : Cst C T u) : Cst C T U := by
  obtain ⟨c, t, h1, h2, h3⟩ := h
  exact ⟨c, t, by rw [hvm.findClass]; exact h1, by rw [hvm.findClass]; exact h2, by rw [hvm.assignable]; exact h3⟩
theorem Cst.use {C T : String} {A : Array Value} {U : State} (h : Cst C T U) : (Cond.castable C T).before A U = true := by
  obtain ⟨c, t, h1, h2, h3⟩ := h
  simp [Cond.before, Cond.holds, Cond.value, h1, h2, h3]
theorem va_Nc.use {C T : String} {args : Array Value} {U : State} (h : va_Nc C T U) : (Cond.not (.castable C T)).before args U = true := by
  obtain ⟨c, t, h1, h2, h3⟩ := h
  simp [Cond.before, Cond.holds, Cond.value, h1, h2, h3]
abbrev eN : String := "java/util/NoSuchElementException"
abbrev eI : String := "java/lang/IndexOutOfBoundsException"
abbrev iR : MethodName := ⟨"java/lang/RuntimeException", "<init>", "()V"⟩
abbrev iE : MethodName := ⟨"java/lang/Exception", "<init>", "()V"⟩
abbrev iT : MethodName := ⟨"java/lang/Throwable", "<init>", "()V"⟩
/-- what an exception's making reads, beside the words that stay -/
def TZ (A : Nat → Prop) (U : State) (H : Heap) : Prop := (va_Zq Bundle.tN "UNASSIGNED_STACK" Bundle.steD A U H ∧ va_Zq Bundle.tN "SUPPRESSED_SENTINEL" Bundle.listD A U H ∧ va_Nc eI eN U) ∧ (LSt Bundle.tN "UNASSIGNED_STACK" Bundle.steD A U H ∧ LSt Bundle.tN "SUPPRESSED_SENTINEL" Bundle.listD A U H) ∧ (Dcl iR U ∧ Dcl iE U ∧ Dcl iT U) ∧ Cst eN eN U ∧ Cst eI eI U
theorem TZ.moved {A : Nat → Prop} {u U : State} {H : Heap} (hvm : u.vm.Alike U.vm) (h : TZ A u H) : TZ A U H := ⟨⟨va_Zq.moved hvm h.1.1, va_Zq.moved hvm h.1.2.1, va_Nc.moved hvm h.1.2.2⟩, ⟨h.2.1.1.moved hvm, h.2.1.2.moved hvm⟩, ⟨h.2.2.1.1.moved hvm, h.2.2.1.2.1.moved hvm, h.2.2.1.2.2.moved hvm⟩, h.2.2.2.1.moved hvm, h.2.2.2.2.moved hvm⟩
theorem TZ.kept {A : Nat → Prop} {U : State} {H H1 : Heap} (h : TZ A U H) (hq : ∀ a : Nat, a < H.size → ¬ A a → H1[a]? = H[a]?) : TZ A U H1 := ⟨⟨h.1.1.kept hq, h.1.2.1.kept hq, h.1.2.2⟩, ⟨h.2.1.1.kept hq, h.2.1.2.kept hq⟩, h.2.2⟩
theorem TZ.narrow {A B : Nat → Prop} {U : State} {H : Heap} (h : TZ A U H) (hAB : ∀ q, B q → A q) : TZ B U H := ⟨⟨h.1.1.narrow hAB, h.1.2.1.narrow hAB, h.1.2.2⟩, ⟨h.2.1.1.narrow hAB, h.2.1.2.narrow hAB⟩, h.2.2⟩
/-- the words of it that don't stay by themselves -/
def NG : List Cond := [.isRef (.static Bundle.tN "UNASSIGNED_STACK" Bundle.steD), .isRef (.static Bundle.tN "SUPPRESSED_SENTINEL" Bundle.listD), .laysStatic Bundle.tN "UNASSIGNED_STACK" Bundle.steD, .laysStatic Bundle.tN "SUPPRESSED_SENTINEL" Bundle.listD, .declares iR, .declares iE, .declares iT, .castable eN eN, .castable eI eI]
theorem NG_ok {A : Nat → Prop} {args : Array Value} {s : State} (hz : TZ A s s.heap) : ∀ w ∈ NG, w.before args s = true := by
  intro w hw
  unfold NG at hw
  simp only [List.mem_cons, List.not_mem_nil, or_false] at hw
  rcases hw with h | h | h | h | h | h | h | h | h
  · rw [h]; exact hz.1.1.isRef
  · rw [h]; exact hz.1.2.1.isRef
  · rw [h]; exact hz.2.1.1.use
  · rw [h]; exact hz.2.1.2.use
  · rw [h]; exact hz.2.2.1.1.use
  · rw [h]; exact hz.2.2.1.2.1.use
  · rw [h]; exact hz.2.2.1.2.2.use
  · rw [h]; exact hz.2.2.2.1.use
  · rw [h]; exact hz.2.2.2.2.use
theorem own_ok {own X : String} {ic : Nat} {names : List String} {A : Nat → Prop} {args : Array Value} {s : State} (hin : ∀ a ∈ Bundle.ownAtoms0 own ic X names, a ∈ XT ∨ a ∈ NG) (htx : ∀ w ∈ XT, w.before args s = true) (hz : TZ A s s.heap) : ∀ a ∈ Bundle.ownAtoms0 own ic X names, a.before args s = true := fun a ha => (hin a ha).elim (htx a) (NG_ok hz a)
/-- the precondition of a method that throws -/
def PT (G : va_G) (K : Nat → ClassId) (ws : va_W) (av : List Value) : Array Value → State → Prop := fun v U => gS G K ws av v U ∧ TZ (fun _ => False) U U.heap
theorem PT_blind {G : va_G} {K : Nat → ClassId} {ws : va_W} {av : List Value} : FrameBlind (PT G K ws av) := fun a U g mk q => ⟨gS_blind a U g mk q.1, TZ.moved (u := U) (U := U.calling g mk a) (Vm.Alike.refl U.vm) q.2⟩
theorem PT_preV {s : State} {H : Heap} {G : va_G} {K : Nat → ClassId} {ws : va_W} {As : List Value} {b q0 ci : Nat} {q : vw_C} {fs : List Value} (hK : va_K G vwCl (TY K) s) (hN : gNw s) (hP : va_P G vwCl ws H) (hc : vwCl[ci]? = some q) (he : ws[q0]? = some (b, .inr (ci, fs))) (hZ : TZ (fun _ => False) s H) : PreV s H q.1 b (PT G K ws (.ref b :: As)) As :=
  ⟨PT_blind, va_recv hK hP hc he, fun U hU hW => ⟨(gS_pre hK hN hP).2 U hU hW, by rw [hU]; exact hZ.moved hW.alike⟩⟩
theorem g_sameNil {s s' : State} {k n : Nat} (h : s.sameButNew s' [] k n) {q : Nat} (hq : q < s.heap.size) : s'.heap[q]? = s.heap[q]? := by
  obtain ⟨-, -, -, -, -, h6⟩ := h
  have e1 : s.heap[q]? = some s.heap[q] := Array.getElem?_eq_getElem hq
  obtain ⟨c', h1, h2, h3, h4⟩ := h6 q _ e1
  rw [e1, h1]
  have e2 : c'.slots = (s.heap[q]).slots := Array.ext_getElem? (fun i => h4 i (by simp))
  rw [h2, e2]
/-- the search at a row that names a type: the row is noted; it is the one, or the next is asked -/
theorem hs_row {Q : Handler → Pre} {E : CtlPost} {e : Env} {d : Bool} {acts : List Action} {S : State} {f : JFrame} {a : Addr} {x : ExceptionTableEntry} {t : List ExceptionTableEntry} {c : ClassId} {cl : Cell} (hx : covers x f.pc = true) (h0 : x.catchType ≠ 0) (hl : S.vm.ClassLinks e.platform f.method.cls x.catchType c) (hcl : S.heap[a]? = some cl) (hob : ∀ k, cl.vm ≠ .statics k) {k1 k2 : Class} (h1 : S.vm.classes[cl.cls]? = some k1) (h2 : S.vm.classes[c]? = some k2) :
    wp (findHandler.go f a (x :: t)) Q E e d acts S ↔ (if S.vm.assignable cl.cls c = true then Q (.found x.handlerPc) d acts (S.setVm (S.vm.noted f.method.cls x.catchType (.cls c))) else wp (findHandler.go f a t) Q E e d acts (S.setVm (S.vm.noted f.method.cls x.catchType (.cls c)))) := by
  simp only [covers] at hx
  obtain ⟨ha, ht⟩ := (resolveClass_links e.toSetting hl).op (op := VmOp.resolveClass f.method.cls x.catchType) rfl
  have hal : S.vm.Alike (S.vm.noted f.method.cls x.catchType (.cls c)) := (Vm.Alike.refl S.vm).noted _ _ _
  obtain ⟨k1', e1, -⟩ := hal.2.2 _ _ h1
  obtain ⟨k2', e2, -⟩ := hal.2.2 _ _ h2
  have has := hal.assignable cl.cls c
  by_cases hf : S.vm.assignable cl.cls c = true
  · rw [if_pos hf]
    rw [hf] at has
    simp [findHandler.go, hx, h0, ha, ht, hcl, hob, e1, e2, has, VmOp.dirties, VmOp.acts]
  · rw [if_neg hf]
    rw [Bool.not_eq_true] at hf
    rw [hf] at has
    simp [findHandler.go, hx, h0, ha, ht, hcl, hob, e1, e2, has, VmOp.dirties, VmOp.acts]
/-- rows that name other classes, then the one -/
theorem hs_go {e : Env} {s0 : State} {f : JFrame} {a : Addr} {cl : Cell} (hob : ∀ k, cl.vm ≠ .statics k) {k0 : Class} (hk0 : s0.vm.classes[cl.cls]? = some k0) {x : ExceptionTableEntry} {rest : List ExceptionTableEntry} {cX : ClassId} (hx : covers x f.pc = true) (h0 : x.catchType ≠ 0) (hlX : s0.vm.ClassLinks e.platform f.method.cls x.catchType cX) (hfit : s0.vm.assignable cl.cls cX = true) :
    ∀ (pre : List ExceptionTableEntry) (S : State), s0.WarmedH S.vm → S.heap[a]? = some cl → (∀ y ∈ pre, covers y f.pc = true ∧ y.catchType ≠ 0 ∧ ∃ c, s0.vm.ClassLinks e.platform f.method.cls y.catchType c ∧ s0.vm.assignable cl.cls c = false) →
      ∃ vm', s0.WarmedH vm' ∧ ∀ (Q : Handler → Pre) (E : CtlPost) (d : Bool) (acts : List Action), wp (findHandler.go f a (pre ++ x :: rest)) Q E e d acts S ↔ Q (.found x.handlerPc) d acts (S.setVm vm') := by
  intro pre
  induction pre with
  | nil =>
    intro S hW hcl _
    obtain ⟨k0', e0, -⟩ := hW.alike.2.2 _ _ hk0
    obtain ⟨dk, _, _, kt, hd, _, _, _, _, hkt, _, hopen⟩ := hlX.here
    obtain ⟨kt', et, -⟩ := hW.alike.2.2 _ _ hkt
    have hf : S.vm.assignable cl.cls cX = true := (hW.alike.assignable cl.cls cX).trans hfit
    exact ⟨_, hW.noted hd hopen (State.rightAt_cls hlX), fun Q E d acts => by
      rw [List.nil_append, hs_row hx h0 (hW.classLinks hlX) hcl hob e0 et, if_pos hf]⟩
  | cons y ys ih =>
    intro S hW hcl hp
    obtain ⟨hy, hy0, cY, hlY, hno⟩ := hp y List.mem_cons_self
    obtain ⟨k0', e0, -⟩ := hW.alike.2.2 _ _ hk0
    obtain ⟨dk, _, _, kt, hd, _, _, _, _, hkt, _, hopen⟩ := hlY.here
    obtain ⟨kt', et, -⟩ := hW.alike.2.2 _ _ hkt
    have hf : S.vm.assignable cl.cls cY = false := (hW.alike.assignable cl.cls cY).trans hno
    obtain ⟨vm', hW', hq⟩ := ih (S.setVm (S.vm.noted f.method.cls y.catchType (.cls cY))) (hW.noted hd hopen (State.rightAt_cls hlY)) hcl (fun z hz => hp z (List.mem_cons_of_mem _ hz))
    exact ⟨vm', hW', fun Q E d acts => by
      rw [List.cons_append, hs_row hy hy0 (hW.classLinks hlY) hcl hob e0 et, if_neg (by rw [hf]; decide)]
      exact hq Q E d acts⟩
/-- the frame goes on at the handler, with the tables that the search leaves -/
theorem hs_caught {tb : Tables} {e : Env} {s target : State} {g : JFrame} {c : Code} {below : List Frame} {a : Addr} (h : _root_.Jvm.At s g.method c below) {pc : Nat} {vm' : Vm}
    (hf : ∀ (Q : Handler → Pre) (E : CtlPost) (d : Bool) (acts : List Action), wp (findHandler g a) Q E e d acts ((s.setTop g).pushFrame (.throwing a)) ↔ Q (.found pc) d acts (((s.setTop g).pushFrame (.throwing a)).setVm vm')) (hrest : Steps tb e below ((s.setVm vm').setTop { g with pc := pc, stack := [.ref a] }) target) :
    Steps tb e below ((s.setTop g).pushFrame (.throwing a)) target := by
  obtain ⟨hgo, hw⟩ := h.throwing a
  refine Steps.head hgo hw ?_
  obtain ⟨g₀, hg⟩ := Option.isSome_iff_exists.mp h.top
  obtain ⟨r, hr⟩ := State.topJava?_eq_some.mp hg
  have hr' : (s.setVm vm').frames = .java g₀ :: r := hr
  have hst : ∀ rs : List Frame, (stepThrowing e ((s.setTop g).pushFrame (.throwing a)) a (.java g :: rs)).1 = (((s.setTop g).pushFrame (.throwing a)).setVm vm').setFrames (.java { g with pc := pc, stack := [.ref a] } :: rs) := by
    intro rs
    simp only [stepThrowing, searchFrame, vmDo]
    generalize hres : Sem.go _ e false [] _ = res
    obtain ⟨as, rfl, -⟩ := Sem.eq_ok_of hres (a := Handler.found pc) (s' := ((s.setTop g).pushFrame (.throwing a)).setVm vm') (acts' := []) (by simp [hf _ _ _ _])
    rfl
  rw [stepThread_throwing (frames_entered h.top _), hst]
  rw [State.setTop_of_frames _ hr'] at hrest
  have e1 : ∀ (u : State) (F G : List Frame), ((u.setFrames F).setVm vm').setFrames G = (u.setVm vm').setFrames G := fun u F G => by
    rw [show (u.setFrames F).setVm vm' = (u.setVm vm').setFrames F from rfl, State.setFrames_setFrames]
  rw [hr, List.tail_cons, State.pushFrame, e1, State.setTop_of_frames _ hr, e1]
  exact hrest
/-- a call that throws, caught in the calling method -/
theorem g_caughtV {p : Program} {l : Launch} {e : Env} {R : Room} {s : State} {m : MethodId} {args : Array Value} {below : List Frame} {meth : Method} {c : Code} {H : Heap} {locs : List Loc} {cells slots : Nat} {Q : State → Prop} {y : MethodName} {bytes cc : ByteArray} {maxL nL mc ms n index : Nat} {ret : Option FieldType} {ws : List Cond} {rm : Room} {Pc : Array Value → State → Prop} {E : String} {Ts : List Cond} {own C : String} {b : Addr} {As rest st0 : List Value} {pc : Nat} {ls : Array Slot}
    (S : CallFix p m c cc nL s args Ts own) (hM : MetT l y ws rm Pc E mc ms) (cw : CallW R s args own C index y bytes maxL ret ws rm mc ms n) (hp : PreV s H C b Pc As)
    (hn : As.length = n) (hsize : ls.size = nL) (hstack : st0 = As.reverse ++ .ref b :: rest) (hW : 2 * (F0 m pc ls rest).monitorRoom + (rest.map fun v => v.category).sum ≤ 8) (hdg : decode cc pc = .ok (.invokevirtual index, 3)) (hf : cells + mc ≤ R.cells ∧ slots + ms ≤ R.slots)
    {name : String} (pre : List ExceptionTableEntry) (x : ExceptionTableEntry) (post : List ExceptionTableEntry) (hsplit : c.exceptionTable.toList = pre ++ x :: post) (hpass : ∀ y ∈ pre, covers y pc = true ∧ ∃ nm, y.catchType ≠ 0 ∧ (Cond.classLink own y.catchType nm).before args s = true ∧ va_Nc E nm s) (hx : covers x pc = true) (h0 : x.catchType ≠ 0)
    (hlink : (Cond.classLink own x.catchType name).before args s = true) (hcast : Cst E name s)
    (kk : ∀ (H1 : Heap) (q : Nat), H.size ≤ H1.size → (∀ a : Nat, a < H.size → H1[a]? = H[a]?) → W p l e R s m args below meth c H1 locs (cells + mc) (slots + ms) Q (F0 m x.handlerPc ls [.ref q])) :
    W p l e R s m args below meth c H locs cells slots Q (F0 m pc ls st0) := by
  obtain ⟨⟨hrc, hrs, hfr, hlo, hws, hcw, hcode, hini, hy, hlen, hl⟩, hin, hse⟩ := cw
  obtain ⟨hx0, hb, hml, ho, -⟩ := S
  obtain ⟨hbl, ⟨cellB, hcB, hoB, hclB⟩, hPc⟩ := hp
  subst hstack
  intro T hT X
  -- the call
  obtain ⟨mk, methM, hnamed, hmethM, hstM, habM⟩ := Cond.instanceMethod_spec hin
  obtain ⟨methM', cM, hmethM', -, -, -, -, -, -, hsigM⟩ := Cond.code_spec hnamed hcode
  cases hmethM.symm.trans hmethM'
  obtain ⟨c2, r2, m2, q1, q2, q3, q4, kP, hkP, hkPi⟩ := Cond.selects_spec hse
  cases hclB.symm.trans q1
  cases (State.methodFound?_of_named hnamed hy).symm.trans q2
  cases hnamed.symm.trans q3
  have hselP : selectMethod e.platform s.vm cellB.cls mk = .method mk := by rw [Launch.admits_selectMethod X.admits]; exact q4
  obtain ⟨vm₁, X₁, hstep₁⟩ := X.invokevirtual hx0 ho hl hnamed hmethM hstM hkP hkPi hy (a := b) (cell := cellB) (by rw [hT]; exact hcB)
    (fun z h => by rw [h] at hoB; cases hoB) hselP hmethM habM hkP hkPi (g := F0 m pc ls (As.reverse ++ .ref b :: rest)) rfl (argsL := As) (rest := rest) (hn.trans (hlen _ hsigM)) rfl (by rw [hb]; exact hdg)
  -- what it comes to
  have hnm := X₁.named hnamed
  obtain ⟨methY, cY, hmY, hcY, -, hlY, -, -, -, -⟩ := Cond.code_spec hnm (hws _ hcw (Value.ref b :: As).toArray (T.setVm vm₁) X₁.warmed)
  obtain ⟨kY, hkY, -⟩ := className_of_methodNamed hnm
  have hini1 : (Cond.initialized y.cls).before (Value.ref b :: As).toArray (T.setVm vm₁) = true := word_at X₁.warmed (Or.inl (by first | rfl | simp [Cond.onTables, Cond.keeps, Cond.steady])) hini
  have hinitY : kY.init = .initialized := Cond.initialized_spec (findClass_of_methodNamed hnm) hkY hini1
  have hA : _root_.Jvm.At (T.setVm vm₁) (F0 m pc ls rest).method c below := X₁.here
  have happ : (headSpec ws rm).appliesLoose y e.platform ((T.setVm vm₁).calling (F0 m pc ls rest) mk (Value.ref b :: As).toArray) = true :=
    Spec.appliesLoose_calling (g := F0 m pc ls rest) hA (by rw [hb]; exact hdg) hnm hkY hinitY
      (X₁.room_calling (g := F0 m pc ls rest) (R' := rm) (hsize.trans hml.symm) hmY hcY hfr (by
        rw [hlY]
        show 2 * (F0 m pc ls rest).monitorRoom + (rest.map fun v => v.category).sum + (maxL + 11) + rm.locals ≤ R.locals
        omega) (by rw [hrc]; exact hf.1) (by rw [hrs]; exact hf.2)) (atoms_intro fun w hw => hws w hw _ _ X₁.warmed)
  obtain ⟨mid, hmid⟩ := hA.above
  have hfrm : ((T.setVm vm₁).setTop (F0 m pc ls rest)).frames = (.java (F0 m pc ls rest) :: mid) ++ below := by rw [State.frames_setTop' _ hA.top, hmid]; rfl
  obtain ⟨o, s₂, hsteps, -, hend, hq⟩ := Steps.callFree hM p X₁.admits X₁.cas X₁.clock (acts := []) hfrm happ (hbl _ _ _ _ (hPc (T.setVm vm₁) hT X₁.warmed)) trivial
  obtain ⟨q, ce, rfl, hce, hvm0, hge, hcl, hWm, hsame⟩ := hq
  rw [State.frames_setTop' _ hA.top, X₁.tail] at hend
  obtain ⟨T', X', hW', hs', ht⟩ := X₁.outOfThrown (g := F0 m pc ls rest) rfl (mk := mk) (a := (Value.ref b :: As).toArray) hend hWm hsame
  have hce' : T'.heap[q]? = some ce := by rw [ht, Stand.throwing_heap] at hce; exact hce
  have hcE : s.vm.findClass E = some ce.cls := by
    have h8 : (T.setVm vm₁).vm.findClass E = some ce.cls := hcl
    rw [X₁.warmed.alike.findClass] at h8
    exact h8
  -- the search
  have hpl : e.platform.magicAccessors = ({} : Platform).magicAccessors := by rw [X'.admits.platform]
  obtain ⟨cE, cT, h1, h2, hasg⟩ := hcast
  cases hcE.symm.trans h1
  obtain ⟨cL, hcL, hlX⟩ := Cond.classLink_spec ho hlink e.platform hpl
  cases h2.symm.trans hcL
  obtain ⟨dk, _, _, kt, hd, _, _, _, _, hkt, _, hopen⟩ := hlX.here
  obtain ⟨k0, hk0⟩ := Vm.classAt_of_assignable hasg ⟨kt, hkt⟩
  obtain ⟨vm', hWv, hgo⟩ := hs_go (e := e) (s0 := s) (f := F0 m pc ls rest) (a := q) (cl := ce) (fun k hk => by rw [hvm0] at hk; cases hk) hk0 (rest := post) hx h0 hlX hasg pre ((T'.setTop (F0 m pc ls rest)).pushFrame (.throwing q)) X'.warmed hce' (fun z hz => by
    obtain ⟨a0, nm, a1, a2, ⟨cz, tz, b1, b2, b3⟩⟩ := hpass z hz
    obtain ⟨cL, hcL, hlz⟩ := Cond.classLink_spec ho a2 e.platform hpl
    cases hcE.symm.trans b1
    cases b2.symm.trans hcL
    exact ⟨a0, a1, _, hlz, b3⟩)
  have hsz : H.size ≤ T'.heap.size := by
    have := hs'.2.1
    rw [← hT]
    exact this
  have hkeep : ∀ a : Nat, a < H.size → T'.heap[a]? = H[a]? := fun a ha => by
    have h9 : (T'.setVm (T.setVm vm₁).vm).heap[a]? = (T.setVm vm₁).heap[a]? := g_sameNil hs' (by show a < T.heap.size; rw [hT]; exact ha)
    rw [← hT]
    exact h9
  have XV := X'.noted hWv
  rw [List.append_nil] at XV
  obtain ⟨t, a1, b1⟩ := kk T'.heap q hsz hkeep (T'.setVm vm') rfl XV
  refine ⟨t, hstep₁ _ (fun acts => ?_), b1⟩
  rw [doInvoke_state]
  refine hsteps.trans ?_
  rw [ht]
  exact hs_caught (g := F0 m pc ls rest) X'.here (fun Q E d acts => by
    rw [W.findHandler_eq (meth := meth) (code := c) X'.method' X'.code, hsplit]
    exact hgo Q E d acts) a1
/-- a static method with a table of handlers, called -/
theorem g_runSW {p : Program} {l : Launch} {e : Env} {R : Room} {s : State} {m : MethodId} {args : Array Value} {below : List Frame} {meth : Method} {c : Code} {H : Heap} {locs : List Loc} {cells slots : Nat} {y : MethodName} {bytes cc : ByteArray} {maxL nL mc ms n index : Nat} {ret : Option FieldType} {hh : List (Nat × Nat × Nat × Nat)} {ws : List Cond} {rm : Room} {Pc : Array Value → State → Prop} {Qc : Array Value → State → Outcome → State → Prop} {free : Addr → Prop} {Ts : List Cond} {own : String} {As rest : List Value} {g : JFrame}
    (S : CallFix p m c cc nL s args Ts own) (hM : Met l y ws rm Pc Qc mc ms free) (hrc : rm.cells = mc) (hrs : rm.slots = ms) (hfr : rm.frames + 1 ≤ R.frames) (hlo : 8 + (maxL + 11) + rm.locals ≤ R.locals) (hws : ∀ w ∈ ws, ∀ (a' : Array Value) (U : State), s.WarmedH U.vm → w.before a' U = true) (hcw : Cond.codeWith y bytes maxL ret hh ∈ ws) (hcode : (Cond.codeWith y bytes maxL ret hh).before args s = true) (hini : (Cond.initialized y.cls).before args s = true)
    (hd : y.cls ≠ "java/lang/invoke/MethodHandle" ∧ y.cls ≠ "java/lang/invoke/VarHandle" ∧ (parseMethodDescriptor y.desc).map (fun d => d.parameters.length) = some n) (hl : (Cond.methodLink own index y).before args s = true) (hstt : (Cond.static y).before args s = true) (hp : PreS s H Pc As)
    (hg : g.method = m) (hn : As.length = n) (hsize : g.locals.size = nL) (hstack : g.stack = As.reverse ++ rest) (hW : 2 * g.monitorRoom + (rest.map fun v => v.category).sum ≤ 8) (hdg : decode cc g.pc = .ok (.invokestatic index, 3)) (hf : cells + mc ≤ R.cells ∧ slots + ms ≤ R.slots) :
    va_Run p l e R s m args below meth c H locs cells slots mc ms g rest (Qc As.toArray) (free) := by
  have hK : Back l R p e below s args y 3 8 (PreOf R mc ms Pc) (PostOf Qc mc ms free) := va_backW (hh := hh) (bytes := bytes) (maxL := maxL) (ret := ret) hM hp.1 hrc hrs hfr hlo hws hcw (fun a' U hW => word_at hW (Or.inl (by first | rfl | simp [Cond.onTables, Cond.keeps, Cond.steady])) hini)
  obtain ⟨hx, hb, hml, ho, -⟩ := S
  intro T hT X
  obtain ⟨mk, methM, cM, hnamed, hmethM, -, -, -, -, -, -, hsigM⟩ := Cond.codeWith_spec hcode
  have hstatic : methM.isStatic = true := Cond.static_spec hnamed hmethM hstt
  obtain ⟨kP, hkP, -⟩ := className_of_methodNamed hnamed
  have hinitP : kP.init = .initialized := Cond.initialized_spec (findClass_of_methodNamed hnamed) hkP hini
  have hlen : As.length = methM.sig.parameters.length := by
    have := hd.2.2
    rw [hsigM] at this
    rw [hn]
    exact (Option.some.inj this).symm
  obtain ⟨vm₁, X₁, hstep₁⟩ := X.invokestatic hx ho hl hnamed hmethM hstatic hkP hinitP ⟨hd.1, hd.2.1⟩ (g := g) hg (argsL := As) (rest := rest) hlen hstack (by rw [hb]; exact hdg)
  obtain ⟨v, ⟨U', l2, c2, s2⟩, X', ⟨g', mk', t, L, e1, e2, hq, h1, hL, h2, h3⟩, hsteps⟩ := hK m meth c ⟨T.setVm vm₁, locs, cells, slots⟩ { g with stack := rest } (.invokestatic index) mk As.toArray X₁ hg (hsize.trans hml.symm) (by rw [hb]; exact hdg) hW (X₁.named hnamed) ⟨hf.1, hf.2, hp.2 (T.setVm vm₁) hT X₁.warmed⟩
  dsimp only [Pt.U, Pt.locs, Pt.cells, Pt.slots] at X' e1 e2 h1 h2 h3 hsteps
  subst h1; subst h2; subst h3
  exact ⟨v, (T.setVm vm₁).calling g' mk' As.toArray, t, U', L, hT, X', hL, e1, e2, hq, fun target h => hstep₁ _ fun acts => by rw [doInvoke_state]; exact hsteps.trans h⟩
/-- the precondition of a method that calls one that may throw -/
def gWX (G : va_G) (K : Nat → ClassId) (ws rs : va_W) (av : List Value) (sz : Nat) : Array Value → State → Prop := fun v U => gW G K ws rs av sz v U ∧ TZ (fun _ => False) U U.heap
theorem gWX_blind {G : va_G} {K : Nat → ClassId} {ws rs : va_W} {av : List Value} {sz : Nat} : FrameBlind (gWX G K ws rs av sz) := fun a U g mk q => ⟨gW_blind a U g mk q.1, TZ.moved (u := U) (U := U.calling g mk a) (Vm.Alike.refl U.vm) q.2⟩
theorem gWX_pre {s : State} {H : Heap} {G : va_G} {K : Nat → ClassId} {ws rs : va_W} {av : List Value} {A : Nat → Prop} (hK : va_K G vwCl (TY K) s) (hN : gNw s) (hP : va_P G vwCl ws H) (hD : va_D A ws) (hR : va_P G vwCl rs H) (hJ : gJ ws rs) (hZ : TZ (fun _ => False) s H) : PreS s H (gWX G K ws rs av H.size) av :=
  ⟨gWX_blind, fun U hU hW => ⟨(gW_pre hK hN hP hD hR hJ).2 U hU hW, by rw [hU]; exact hZ.moved hW.alike⟩⟩
theorem g_metWiX {l : Launch} {y : MethodName} {cc : ByteArray} {maxL : Nat} {ret : Option FieldType} {hh : List (Nat × Nat × Nat × Nat)} {rt : FieldType} {cw : Cond} {rm : Room} {G : va_G} {K : Nat → ClassId} {ws rs : va_W} {av : List Value} {S : Type} {post : Int32 → S → Prop} {W1 : S → va_W} {sz mc ms : Nat}
    (hy : plainName y.cls = true) (hw : cw = Cond.codeWith y cc maxL ret hh) (hrt : ret = some rt) (hn : (lg_sl av).length ≤ maxL)
    (body : ∀ (p : Program) (e : Env) (s : State) (m : MethodId) (below : List Frame) (meth : Method) (c : Code) (A : Nat → Prop) (Q : State → Prop), p.tables.exec = Jvm.exec → c.code = cc → c.maxLocals = maxL → s.vm.findClass y.cls = some m.cls → c.exceptionTable.toList = tableOf hh → (∀ w ∈ ET, w.before av.toArray s = true) → va_K G vwCl (TY K) s → gNw s → TZ (fun _ => False) s s.heap → va_P G vwCl ws s.heap →
      va_D A ws → (∀ q : Nat, s.heap.size ≤ q → A q) → va_S A s.heap s.heap [] → va_P G vwCl rs s.heap → (∀ (k : Nat) (q : Nat × va_E), rs[k]? = some q → ¬ A q.1) →
      (∀ (r : Int32) (u : S) (H : Heap) (locs : List Loc) (ls : Array Slot) (pc : Nat), post r u → narrow rt (.int r) = .int r → va_P G vwCl (W1 u) H → va_D A (W1 u) → va_S A s.heap H locs → decode cc pc = .ok (.ireturn, 1) → W p l e rm s m av.toArray below meth c H locs mc ms Q (F0 m pc ls [.int r])) → ∀ ls : Array Slot, lv_has ls maxL (lv_args 0 av) →
      W p l e rm s m av.toArray below meth c s.heap [] 0 0 Q (F0 m 0 ls [])) : Met l y (cw :: ET) rm (gWX G K ws rs av sz) (va_Qi post (fun u t => gB G K (W1 u) (va_A ws sz) t) (va_A ws sz)) mc ms (va_A ws sz) := by
  subst hw
  refine va_MetW (cc := cc) (maxL := maxL) (ret := ret) (hh := hh) hy rfl ?_
  intro p e s m args below meth c s₁ B hml hv
  obtain ⟨⟨rfl, hsz, hP, hK, hD0, hR, hJ, hN⟩, hZ⟩ := hv
  have hts := atoms_spec (ws := Cond.codeWith y cc maxL ret hh :: ET) B.pre
  subst hsz
  have hl := lv_entry av hn
  rw [lg_entry_eq]
  have XS := Stand.of_body B
  obtain ⟨m9, meth9, c9, hn9, h1, h2, h3, h4, htab, -⟩ := Cond.codeWith_spec (hts _ List.mem_cons_self)
  cases B.named.symm.trans hn9
  cases XS.method.symm.trans h1
  cases XS.code.symm.trans h2
  have htb : c.exceptionTable.toList = tableOf hh := by rw [← htab, table_eq]
  refine body p e s m below meth c (va_A ws s.heap.size) _ B.exec B.bytes hml (findClass_of_methodNamed B.named) htb (fun w h => hts w (List.mem_cons_of_mem _ h)) hK hN hZ hP (hD0.self (sz := s.heap.size)) (fun q h => Or.inr h) va_S.rf hR ?_ (fun r u H locs ls pc h hnr hP hD hS hd => ?_) _ hl
  · intro k q hk hA
    rcases hA with ⟨k2, e2, h⟩ | h
    · exact hJ k q hk k2 (q.1, e2) h rfl
    · exact Nat.not_lt.mpr h (hR k q hk).lt
  · exact W.zret (ty := rt) B.exec B.bytes (B.returns.trans hrt) hnr (fun t ht hW => ⟨⟨r, u, rfl, h, by rw [ht]; exact hP, va_K.moved hW.alike hK, hD⟩, hS.F ht⟩) hS.2.2 hd (hlocks := B.notSynchronized)
theorem lv_perm {ls : Array Slot} {n : Nat} {l l' : List (Nat × Value)} (h : lv_has ls n l) (ks : List Nat) (e : ks.filterMap (fun k => l[k]?) = l') : lv_has ls n l' := ⟨h.1, h.2.1, fun q hq => by
  rw [← e] at hq
  obtain ⟨k, -, hk⟩ := List.mem_filterMap.mp hq
  exact h.2.2 q (List.mem_of_getElem? hk)⟩
