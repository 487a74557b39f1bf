/-! Methods that throw: an exception that is made here leaves the method -/
def TQ (below : List Frame) (E : String) (mc ms : Nat) (s : State) : State → Prop := fun t => ∃ (q : Addr) (ce : Cell), t.status = .running ∧ Ended t below (.threw q) ∧ t.heap[q]? = some ce ∧ ce.vm = .none ∧ s.heap.size ≤ q ∧ s.vm.findClass E = some ce.cls ∧ s.WarmedH t.vm ∧ s.sameButNew ({ t with vm := s.vm } : State) [] mc ms
def TQc (E : String) (mc ms : Nat) : Array Value → State → Outcome → State → Prop := fun _ s o t => ∃ (q : Addr) (ce : Cell), o = .threw q ∧ t.heap[q]? = some ce ∧ ce.vm = .none ∧ s.heap.size ≤ q ∧ s.vm.findClass E = some ce.cls ∧ s.WarmedH t.vm ∧ s.sameButNew ({ t with vm := s.vm } : State) [] mc ms
abbrev MetT (l : Launch) (y : MethodName) (wt : List Cond) (rm : Room) (Pc : Array Value → State → Prop) (E : String) (mc ms : Nat) : Prop := MetFree l y (headSpec wt rm) Pc (fun _ _ _ _ _ => True) (TQc E mc ms)
theorem MetT.ofW {l : Launch} {y : MethodName} {wt ws' : List Cond} {rm : Room} {Pc : Array Value → State → Prop} {E : String} {mc ms : Nat} {cc : ByteArray} {maxL : Nat} {ret : Option FieldType}
    (hy : plainName y.cls = true) (hw : wt = Cond.code y cc maxL ret :: ws')
    (body : ∀ p e s m args below meth c s₁, BodyLoose p l y (headSpec wt rm) cc maxL ret e s m args below meth c s₁ → c.maxLocals = maxL → l.admits e → c.exceptionTable.isEmpty = true → Pc args s →
      W p l e (headSpec wt rm).room s m args below meth c s.heap [] 0 0 (TQ below E mc ms s) (entryFrame m args maxL)) : MetT l y wt rm Pc E mc ms := by
  refine MetFree.of_bodyS (code := cc) (maxLocals := maxL) (ret := ret) hy ?_ ?_
  · intro args s m h hn
    obtain ⟨meth, c, h1, h2, h3, h4, h5, h6, -, -⟩ := Cond.code_spec hn (atoms_spec (ws := wt) h _ (by rw [hw]; exact List.mem_cons_self))
    exact ⟨meth, c, h1, h2, h3, h4, h5, h6⟩
  · intro p e s m args below meth c s₁ B hml hP _
    have hh0 : s₁.heap = s.heap := by rw [B.state]; rfl
    have hcode : (Cond.code y cc maxL ret).before args s = true := atoms_spec (ws := wt) B.pre _ (by rw [hw]; exact List.mem_cons_self)
    obtain ⟨t, a1, q, ce, b1, b2, b3⟩ := body p e s m args below meth c s₁ B hml (Stand.of_body B).admits (B.noHandlers hcode) hP s₁ hh0 (Stand.of_body B)
    exact ⟨t, .threw q, a1, b1, b2, q, ce, rfl, b3⟩
/-- new E; dup; E(); athrow -/
theorem g_throw0 {p : Program} {l : Launch} {e : Env} {R : Room} {s : State} {m : MethodId} {args : Array Value} {below : List Frame} {meth : Method} {c : Code} {H : Heap} {cells slots : Nat} {cc : ByteArray} {pc : Nat} {ls : Array Slot}
    (hexec : p.tables.exec = Jvm.exec) (hb : c.code = cc) (htr : e.platform.stackTraces = false) {own cls : String} {names : List String} {ik ic : Nat} (hown : s.vm.findClass own = some m.cls) (hcls : Bundle.fit cls = true) (hnames : ∀ n ∈ names, Bundle.fit n = true)
    (hat : ∀ a ∈ Bundle.ownAtoms0 own ic cls names, a.before args s = true) (hk : (Cond.classLink own ik cls).before args s = true) (hins : (Cond.instantiable cls 6).before args s = true) (hini : (Cond.initialized cls).before args s = true)
    (hH : s.heap.size ≤ H.size) (hsz : ls.size = c.maxLocals) (hout : c.exceptionTable.isEmpty = true) (hlocks : meth.locks = false)
    (d0 : decode cc pc = .ok (.new ik, 3)) (d3 : decode cc (pc + 3) = .ok (.dup, 1)) (d4 : decode cc (pc + 3 + 1) = .ok (.invokespecial ic, 3)) (d7 : decode cc (pc + 3 + 1 + 3) = .ok (.athrow, 1))
    (hcells : cells + 1 ≤ R.cells) (hslots : slots + 6 ≤ R.slots) (hfr : names.length + 3 < R.frames) (hlo : 1 + (13 * (names.length + 1) + 41) ≤ R.locals) :
    W p l e R s m args below meth c H [] cells slots (TQ below cls (cells + 1) (slots + 6) s) (F0 m pc ls []) := by
  refine W.newc hexec hb hown hk hins hini rfl d0 hcells hslots (fun cC kC h1 h2 h3 h4 => ?_)
  refine lv_dup hexec hb d3 rfl ?_
  intro T hT X
  have hcell : T.heap[H.size]? = some (freshCell cC kC) := by rw [hT]; simp
  have ho : ∀ x ∈ c.exceptionTable.toList, covers x (pc + 3 + 1 + 3) = false := by
    intro x hx
    have : c.exceptionTable = #[] := Array.isEmpty_iff.mp hout
    rw [this] at hx
    simp at hx
  obtain ⟨U, st, hrun, hend, hW, hsame, ce, hce, hoc⟩ := X.ctorThrow0 (names := names) hexec htr hown hcls hnames hat (fun x hx => by cases hx) h1 h2 hcell hH (g := F0 m (pc + 3 + 1) ls [.ref H.size, .ref H.size]) rfl hsz rfl rfl (rest := []) rfl (by rw [hb]; exact d4) (by rw [hb]; exact d7) ho hfr hlo hlocks
  exact ⟨U, st, H.size, ce, hrun, hend, hce, hoc.vm, hH, hoc.cls, hW, hsame⟩
