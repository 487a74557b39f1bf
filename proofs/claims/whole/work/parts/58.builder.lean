/-! The builder: refine, build, machineOf -/
noncomputable def Md.au (D : Md) : Auto := Auto.mk D.sets.length (fun k c => D.sets.idxOf (D.nx (nd D.sets k) c)) (fun k => D.win (nd D.sets k))
theorem idx_nd {L : List Int32} {x : Int32} (h : x ∈ L) : L.idxOf x < L.length ∧ nd L (L.idxOf x) = x := by
  have h1 := List.idxOf_lt_length_of_mem h
  exact ⟨h1, by rw [nd_el h1, List.getElem_idxOf h1]⟩
theorem au_mem {D : Md} (hD : DOk D) {k c : Nat} (hk : k < D.sets.length) (hc : c < 6) : D.nx (nd D.sets k) c ∈ D.sets := by
  have := (D.sets_ok hD.hP).cl (6 * k + c) (by omega)
  unfold slot at this
  rw [show (6 * k + c) / 6 = k by omega, show (6 * k + c) % 6 = c by omega] at this
  exact this
theorem au_nd {D : Md} (hD : DOk D) {k c : Nat} (hk : k < D.sets.length) (hc : c < 6) : nd D.sets (D.au.to k c) = D.nx (nd D.sets k) c := (idx_nd (au_mem hD hk hc)).2
theorem au_lt {D : Md} (hD : DOk D) {k c : Nat} (hk : k < D.sets.length) (hc : c < 6) : D.au.to k c < D.sets.length := (idx_nd (au_mem hD hk hc)).1
theorem au_0 {D : Md} (hD : DOk D) {k c : Nat} (hk : k < D.sets.length) (hc : c < 6) : D.au.to k c = 0 ↔ D.nx (nd D.sets k) c = 0 := by
  have ok := (D.sets_ok hD.hP).ok
  rw [← au_nd hD hk hc]
  constructor
  · intro e; rw [e, ok.z]
  · intro e
    exact ok.inj (au_lt hD hk hc) ok.pos (by rw [e, ok.z])
theorem au_ok {D : Md} (hD : DOk D) : D.au.Ok := by
  refine ⟨(D.sets_ok hD.hP).ok.pos, (D.sets_ok hD.hP).ok.le, fun k c hk hc => au_lt hD hk hc, ?_, fun k _ => hD.win _⟩
  show D.win (nd D.sets 0) = -1
  rw [(D.sets_ok hD.hP).ok.z, Md.win_0]
theorem au_j {D : Md} (hD : DOk D) {k : Nat} (hk : k < D.sets.length) : ∃ j, j < 512 ∧ nd D.sets k = nI j ∧ nI j ∈ D.sets ∧ (nd D.sets k).toNatClampNeg = j := by
  have hm := nd_mem hk
  obtain ⟨j, hj, e⟩ := S9_nI ((D.sets_ok hD.hP).ok.s9 _ hm)
  exact ⟨j, hj, e, e ▸ hm, by rw [e, nI_clamp (by omega)]⟩
theorem au_cinj {D : Md} (hD : DOk D) {i k : Nat} (hi : i < D.sets.length) (hk : k < D.sets.length) (e : (nd D.sets i).toNatClampNeg = (nd D.sets k).toNatClampNeg) : i = k := by
  obtain ⟨a, ha, ea, -, ca⟩ := au_j hD hi
  obtain ⟨b, hb, eb, -, cb⟩ := au_j hD hk
  rw [ca, cb] at e
  exact (D.sets_ok hD.hP).ok.inj hi hk (by rw [ea, eb, e])
theorem au_in {D : Md} (hD : DOk D) {k : Nat} (hk : k < D.sets.length) : vp_in (nd D.sets k) 512 := by
  obtain ⟨j, hj, e, -, -⟩ := au_j hD hk
  rw [e]; exact vp_in_nI hj (by omega)
/-- the rows that stay while the builder refines -/
def BR (D : Md) (be pl fo : Nat → Int32) : Prop :=
  (∀ j, nI j ∈ D.sets → j < 512 → be j = D.bhd (nI j)) ∧
  (∀ c, c < 6 → pl c = D.plc c) ∧
  (∀ k, k < D.sets.length → fo k = nd D.sets k)
theorem BR.be {D : Md} {be pl fo : Nat → Int32} (h_ : BR D be pl fo) : ∀ j, nI j ∈ D.sets → j < 512 → be j = D.bhd (nI j) := h_.1
theorem BR.pl {D : Md} {be pl fo : Nat → Int32} (h_ : BR D be pl fo) : ∀ c, c < 6 → pl c = D.plc c := h_.2.1
theorem BR.fo {D : Md} {be pl fo : Nat → Int32} (h_ : BR D be pl fo) : ∀ k, k < D.sets.length → fo k = nd D.sets k := h_.2.2

/-- labels g in a row by sets -/
def LG (D : Md) (gr : Nat → Int32) (g : Nat → Nat) : Prop := ∀ k, k < D.sets.length → gr (nd D.sets k).toNatClampNeg = nI (g k)
theorem q_groupAfter {D : Md} (hD : DOk D) {be pl fo gr : Nat → Int32} (hB : BR D be pl fo) {g : Nat → Nat} (hg : LG D gr g) {k c : Nat} (hk : k < D.sets.length) (hc : c < 6) {post : Int32 → Prop} (h : post (gA g (D.au.to k c))) : p_MachineBuilder_groupAfter be pl gr (nd D.sets k) (nI c) post := by
  obtain ⟨j, hj, e, m, ce⟩ := au_j hD hk
  have e2 : be j &&& pl c = D.nx (nd D.sets k) c := by
    rw [hB.be j m hj, hB.pl c hc, e]; rfl
  refine ⟨au_in hD hk, vp_in_nI hc (by omega), ?_⟩
  rw [ce, nI_clamp (by omega), e2]
  unfold gA at h
  have h0 := au_0 hD hk hc
  refine ⟨fun z => ?_, fun z => ?_⟩
  · rw [if_neg (fun y => z (h0.mp y))] at h
    have ht := au_lt hD hk hc
    rw [← au_nd hD hk hc]
    refine ⟨au_in hD ht, ?_⟩
    rw [hg _ ht]; exact h
  · rw [if_pos (h0.mpr z)] at h
    exact h
theorem q_goOnAlike {D : Md} (hD : DOk D) {be pl fo gr : Nat → Int32} (hB : BR D be pl fo) {g : Nat → Nat} (hg : LG D gr g) {k i : Nat} (hk : k < D.sets.length) (hi : i < D.sets.length) {post : Int32 → Prop}
    (h1 : (∀ c, c < 6 → gA g (D.au.to k c) = gA g (D.au.to i c)) → post 1) (h0 : (¬ ∀ c, c < 6 → gA g (D.au.to k c) = gA g (D.au.to i c)) → post 0) : p_MachineBuilder_goOnAlike be pl gr (nd D.sets k) (nd D.sets i) post := by
  refine pk_loop (fun n c (_ : Unit) => p_MachineBuilder_goOnAlike_2 be pl gr (nd D.sets k) (nd D.sets i) post n (nI c)) (fun c _ => ∀ d, d < c → gA g (D.au.to k d) = gA g (D.au.to i d)) 6 0 () (Nat.zero_le _) (fun d hd => absurd hd (by omega)) ?_ ?_
  · intro n _ hI
    exact ⟨fun _ => h1 hI, fun z => absurd (by decide) z⟩
  · intro n c _ hc hI hkk
    refine ⟨fun z => absurd z (nI_ge (b := 6) hc (by omega)), fun _ => q_groupAfter hD hB hg hk hc (q_groupAfter hD hB hg hi hc ⟨fun e => ?_, fun e => h0 (fun q => e (q c hc))⟩)⟩
    rw [nI_1]
    refine hkk () (fun d hd => ?_)
    by_cases q : d = c
    · rw [q]; exact e
    · exact hI d (by omega)
/-- the newest below lim of the labels whose samples have the old label v -/
def PM (g s : Nat → Nat) (lim v : Nat) (x : Int32) : Prop := (x = -1 ∧ ∀ h, h < lim → g (s h) ≠ v) ∨ ∃ h, h < lim ∧ x = nI h ∧ g (s h) = v ∧ ∀ h', h < h' → h' < lim → g (s h') ≠ v
/-- refine under way: the first i sets have their finer labels -/
def RI (D : Md) (g : Nat → Nat) (i n : Nat) (f s : Nat → Nat) (ne sa ol fi : Nat → Int32) : Prop :=
  (Canon i f n s) ∧
  (∀ a b, a < i → b < i → (f a = f b ↔ alike D.au g a b)) ∧
  (∀ h, h < n → sa h = nd D.sets (s h)) ∧
  (∀ k, k < i → fi (nd D.sets k).toNatClampNeg = nI (f k)) ∧
  (∀ v, v < 512 → PM g s n v (ne v)) ∧
  (∀ h, h < n → PM g s h (g (s h)) (ol h))
theorem RI.can {D : Md} {g : Nat → Nat} {i n : Nat} {f s : Nat → Nat} {ne sa ol fi : Nat → Int32} (h_ : RI D g i n f s ne sa ol fi) : Canon i f n s := h_.1
theorem RI.al {D : Md} {g : Nat → Nat} {i n : Nat} {f s : Nat → Nat} {ne sa ol fi : Nat → Int32} (h_ : RI D g i n f s ne sa ol fi) : ∀ a b, a < i → b < i → (f a = f b ↔ alike D.au g a b) := h_.2.1
theorem RI.sa {D : Md} {g : Nat → Nat} {i n : Nat} {f s : Nat → Nat} {ne sa ol fi : Nat → Int32} (h_ : RI D g i n f s ne sa ol fi) : ∀ h, h < n → sa h = nd D.sets (s h) := h_.2.2.1
theorem RI.fi {D : Md} {g : Nat → Nat} {i n : Nat} {f s : Nat → Nat} {ne sa ol fi : Nat → Int32} (h_ : RI D g i n f s ne sa ol fi) : ∀ k, k < i → fi (nd D.sets k).toNatClampNeg = nI (f k) := h_.2.2.2.1
theorem RI.ne {D : Md} {g : Nat → Nat} {i n : Nat} {f s : Nat → Nat} {ne sa ol fi : Nat → Int32} (h_ : RI D g i n f s ne sa ol fi) : ∀ v, v < 512 → PM g s n v (ne v) := h_.2.2.2.2.1
theorem RI.ol {D : Md} {g : Nat → Nat} {i n : Nat} {f s : Nat → Nat} {ne sa ol fi : Nat → Int32} (h_ : RI D g i n f s ne sa ol fi) : ∀ h, h < n → PM g s h (g (s h)) (ol h) := h_.2.2.2.2.2

theorem q_homeOf {D : Md} (hD : DOk D) {be pl fo gr : Nat → Int32} (hB : BR D be pl fo) {g : Nat → Nat} (hg : LG D gr g) (hg5 : ∀ k, k < D.sets.length → g k < 512) {i n : Nat} {f s : Nat → Nat} {ne sa ol fi : Nat → Int32} (hR : RI D g i n f s ne sa ol fi) (hi : i < D.sets.length) {post : Int32 → Prop}
    (h1 : ∀ h, h < n → alike D.au g i (s h) → post (nI h)) (h0 : (∀ h, h < n → ¬ alike D.au g i (s h)) → post (-1)) : p_MachineBuilder_homeOf gr ne sa be pl ol (nd D.sets i) post := by
  have hle := (D.sets_ok hD.hP).ok.le
  have hni := hR.can.le
  refine ⟨au_in hD hi, ?_⟩
  rw [hg i hi, nI_clamp (by have := hg5 i hi; omega)]
  refine ⟨vp_in_nI (hg5 i hi) (by omega), ?_⟩
  have key : ∀ (lim : Nat) (x : Int32) (l : Nat), lim ≤ n → l + lim ≤ n → PM g s lim (g i) x → (∀ h, lim ≤ h → h < n → ¬ alike D.au g i (s h)) → ∃ k, p_MachineBuilder_homeOf_14 gr sa be pl ol (nd D.sets i) post k x (nI l) := by
    intro lim
    induction lim using Nat.strongRecOn with
    | ind lim ih =>
      intro x l hl hll hx hno
      rcases hx with ⟨rfl, hx⟩ | ⟨h, hh, rfl, hv, hx⟩
      · have hp : post (-1) := h0 (fun h hh => by
          by_cases q : h < lim
          · exact fun a => hx h q a.1.symm
          · exact hno h (by omega) hh)
        exact ⟨1, fun _ => hp, fun _ => ⟨fun _ => hp, fun z => absurd rfl z⟩⟩
      · have hsN : s h < D.sets.length := Nat.lt_trans (hR.can.1 h (by omega)).1 hi
        by_cases al : ∀ c, c < 6 → gA g (D.au.to i c) = gA g (D.au.to (s h) c)
        · have hp := h1 h (by omega) ⟨hv.symm, al⟩
          refine ⟨1, fun z => absurd z (nI_ge (b := 512) (by omega) (by omega)), fun _ => ⟨fun z => absurd z (nI_nm1 (by omega)), fun _ => ⟨vp_in_nI (by omega) (by omega), ?_⟩⟩⟩
          rw [nI_clamp (by omega), hR.sa h (by omega)]
          exact q_goOnAlike hD hB hg hi hsN (fun _ => ⟨fun z => absurd z (by decide), fun _ => hp⟩) (fun z => absurd al z)
        · obtain ⟨k, hk⟩ := ih h hh (ol h) (l + 1) (by omega) (by omega) (hv ▸ hR.ol h (by omega)) (fun h' h1 h2 => by
            by_cases e : h' = h
            · rw [e]; exact fun a => al a.2
            · by_cases q : h' < lim
              · exact fun a => hx h' (by omega) q a.1.symm
              · exact hno h' (by omega) h2)
          refine ⟨k + 1, fun z => absurd z (nI_ge (b := 512) (by omega) (by omega)), fun _ => ⟨fun z => absurd z (nI_nm1 (by omega)), fun _ => ⟨vp_in_nI (by omega) (by omega), ?_⟩⟩⟩
          rw [nI_clamp (by omega), hR.sa h (by omega), nI_1]
          exact q_goOnAlike hD hB hg hi hsN (fun z => absurd z al) (fun _ => ⟨fun _ => ⟨vp_in_nI (by omega) (by omega), hk⟩, fun z => absurd rfl z⟩)
  exact key n _ 0 (Nat.le_refl _) (by omega) (hR.ne _ (hg5 i hi)) (fun h a b => by omega)
theorem alike.symm {A : Auto} {g : Nat → Nat} {i j : Nat} (h : alike A g i j) : alike A g j i := ⟨h.1.symm, fun c hc => (h.2 c hc).symm⟩
theorem alike.trans {A : Auto} {g : Nat → Nat} {i j k : Nat} (h : alike A g i j) (h' : alike A g j k) : alike A g i k := ⟨h.1.trans h'.1, fun c hc => (h.2 c hc).trans (h'.2 c hc)⟩
theorem alike.rfl {A : Auto} {g : Nat → Nat} {i : Nat} : alike A g i i := ⟨Eq.refl _, fun _ _ => Eq.refl _⟩
def updN (f : Nat → Nat) (k x : Nat) : Nat → Nat := fun j => if j = k then x else f j
theorem updN_s {f : Nat → Nat} {k x : Nat} : updN f k x k = x := if_pos rfl
theorem updN_n {f : Nat → Nat} {k x j : Nat} (h : j ≠ k) : updN f k x j = f j := if_neg h
/-- labels by first occurrence grow by a node that is like an earlier one .. -/
theorem Canon.old {i n : Nat} {f s : Nat → Nat} (h : Canon i f n s) {x : Nat} (hx : x < n) : Canon (i + 1) (updN f i x) n s := by
  refine ⟨fun k hk => ?_, fun j hj => ?_⟩
  · obtain ⟨a1, a2, a3⟩ := h.1 k hk
    exact ⟨by omega, by rw [updN_n (by omega)]; exact a2, fun j hj => by rw [updN_n (by omega)]; exact a3 j hj⟩
  · by_cases e : j = i
    · rw [e, updN_s]; exact hx
    · rw [updN_n e]; exact h.2 j (by omega)
/-- .. or by a new label -/
theorem Canon.new {i n : Nat} {f s : Nat → Nat} (h : Canon i f n s) : Canon (i + 1) (updN f i n) (n + 1) (updN s n i) := by
  refine ⟨fun k hk => ?_, fun j hj => ?_⟩
  · by_cases e : k = n
    · subst e
      rw [updN_s]
      exact ⟨by omega, updN_s, fun j hj => by rw [updN_n (by omega)]; exact h.2 j hj⟩
    · rw [updN_n e]
      obtain ⟨a1, a2, a3⟩ := h.1 k (by omega)
      exact ⟨by omega, by rw [updN_n (by omega)]; exact a2, fun j hj => by rw [updN_n (by omega)]; exact a3 j hj⟩
  · by_cases e : j = i
    · rw [e, updN_s]; omega
    · rw [updN_n e]; have := h.2 j (by omega); omega
theorem al_old {A : Auto} {g f s : Nat → Nat} {i n x : Nat} (hc : Canon i f n s) (ha : ∀ a b, a < i → b < i → (f a = f b ↔ alike A g a b)) (hx : x < n) (hal : alike A g i (s x)) : ∀ a b, a < i + 1 → b < i + 1 → (updN f i x a = updN f i x b ↔ alike A g a b) := by
  obtain ⟨b1, b2, -⟩ := hc.1 x hx
  have hone : ∀ a, a < i → (f a = x ↔ alike A g a i) := fun a hai => by
    rw [show (f a = x) ↔ (f a = f (s x)) by rw [b2], ha a (s x) hai b1]
    exact ⟨fun q => q.trans hal.symm, fun q => q.trans hal⟩
  intro a b h1 h2
  by_cases ea : a = i <;> by_cases eb : b = i
  · subst ea; subst eb; exact ⟨fun _ => alike.rfl, fun _ => rfl⟩
  · subst ea
    rw [updN_s, updN_n eb, eq_comm, hone b (by omega)]
    exact ⟨fun q => q.symm, fun q => q.symm⟩
  · subst eb
    rw [updN_s, updN_n ea, hone a (by omega)]
  · rw [updN_n ea, updN_n eb]; exact ha a b (by omega) (by omega)
theorem al_new {A : Auto} {g f s : Nat → Nat} {i n : Nat} (hc : Canon i f n s) (ha : ∀ a b, a < i → b < i → (f a = f b ↔ alike A g a b)) (hno : ∀ h, h < n → ¬ alike A g i (s h)) : ∀ a b, a < i + 1 → b < i + 1 → (updN f i n a = updN f i n b ↔ alike A g a b) := by
  have hone : ∀ a, a < i → f a ≠ n ∧ ¬ alike A g a i := fun a hai => by
    have h1 := hc.2 a hai
    obtain ⟨b1, b2, -⟩ := hc.1 (f a) h1
    refine ⟨by omega, fun q => hno (f a) h1 ?_⟩
    have := (ha (s (f a)) a b1 hai).mp b2
    exact (this.trans q).symm
  intro a b h1 h2
  by_cases ea : a = i <;> by_cases eb : b = i
  · subst ea; subst eb; exact ⟨fun _ => alike.rfl, fun _ => rfl⟩
  · subst ea
    rw [updN_s, updN_n eb]
    exact ⟨fun q => absurd q.symm (hone b (by omega)).1, fun q => absurd q.symm (hone b (by omega)).2⟩
  · subst eb
    rw [updN_s, updN_n ea]
    exact ⟨fun q => absurd q (hone a (by omega)).1, fun q => absurd q (hone a (by omega)).2⟩
  · rw [updN_n ea, updN_n eb]; exact ha a b (by omega) (by omega)
theorem q_refine101 {D : Md} (hD : DOk D) {be pl fo : Nat → Int32} (hB : BR D be pl fo) {f : Nat → Nat} {x : Int32} {ne sa ol fi gr : Nat → Int32} {post : Int32 → (Nat → Int32) → (Nat → Int32) → (Nat → Int32) → (Nat → Int32) → (Nat → Int32) → Prop}
    (hfi : ∀ k, k < D.sets.length → fi (nd D.sets k).toNatClampNeg = nI (f k)) (hp : ∀ gr', LG D gr' f → post x ne gr' sa ol fi) : ∃ k, p_MachineBuilder_refine_101 (nI D.sets.length) fo post k x 0 ne gr sa ol fi := by
  have hle := (D.sets_ok hD.hP).ok.le
  refine pk_loop (fun n i gr => p_MachineBuilder_refine_101 (nI D.sets.length) fo post n x (nI i) ne gr sa ol fi) (fun i gr => ∀ k, k < i → gr (nd D.sets k).toNatClampNeg = nI (f k)) D.sets.length 0 gr (Nat.zero_le _) (fun k hk => absurd hk (by omega)) ?_ ?_
  · intro n gr hI
    exact ⟨fun _ => hp gr hI, fun z => absurd (nI_le (Nat.le_refl _) (by omega)) z⟩
  · intro n i gr hi hI hk
    refine ⟨fun z => absurd z (nI_ge hi (by omega)), fun _ => ?_⟩
    have hin := au_in hD hi
    have hi5 : vp_in (nI i) 512 := vp_in_nI (by omega) (by omega)
    rw [nI_clamp (by omega), hB.fo i hi, hfi i hi, nI_1]
    refine ⟨hi5, hi5, hin, hin, hk _ (fun k hk => ?_)⟩
    by_cases e : k = i
    · subst e; rw [pk_us]
    · rw [pk_un (fun q => e (au_cinj hD (by omega) hi q))]
      exact hI k (by omega)
theorem q_refine {D : Md} (hD : DOk D) {be pl fo : Nat → Int32} (hB : BR D be pl fo) {g : Nat → Nat} (hg5 : ∀ k, k < D.sets.length → g k < 512) {ne gr sa ol fi : Nat → Int32} (hg : LG D gr g) {post : Int32 → (Nat → Int32) → (Nat → Int32) → (Nat → Int32) → (Nat → Int32) → (Nat → Int32) → Prop}
    (hp : ∀ (n : Nat) (f s : Nat → Nat) ne' gr' sa' ol' fi', Fine D.au g f n s → LG D gr' f → (∀ h, h < n → sa' h = nd D.sets (s h)) → post (nI n) ne' gr' sa' ol' fi') : p_MachineBuilder_refine (nI D.sets.length) ne fo gr sa be pl ol fi post := by
  have hle := (D.sets_ok hD.hP).ok.le
  refine q_Arrays_fill (by omega) (fun ne' hne _ => ?_)
  refine pk_loop (σ := Nat × (Nat → Nat) × (Nat → Nat) × (Nat → Int32) × (Nat → Int32) × (Nat → Int32) × (Nat → Int32)) (fun k i s => p_MachineBuilder_refine_12 (nI D.sets.length) fo be pl post k (nI s.1) (nI i) s.2.2.2.1 gr s.2.2.2.2.1 s.2.2.2.2.2.1 s.2.2.2.2.2.2) (fun i s => RI D g i s.1 s.2.1 s.2.2.1 s.2.2.2.1 s.2.2.2.2.1 s.2.2.2.2.2.1 s.2.2.2.2.2.2) D.sets.length 0 (0, id, id, ne', sa, ol, fi) (Nat.zero_le _) ?_ ?_ ?_
  · refine ⟨⟨fun k hk => absurd hk (Nat.not_lt_zero _), fun i hi => absurd hi (Nat.not_lt_zero _)⟩, fun a b ha => absurd ha (Nat.not_lt_zero _), fun h hh => absurd hh (Nat.not_lt_zero _), fun h hh => absurd hh (Nat.not_lt_zero _), fun v hv => Or.inl ⟨hne v hv, fun h hh => absurd hh (Nat.not_lt_zero _)⟩, fun h hh => absurd hh (Nat.not_lt_zero _)⟩
  · rintro k ⟨n, f, s, ne, sa, ol, fi⟩ hI
    refine ⟨fun _ => ?_, fun z => absurd (nI_le (Nat.le_refl _) (by omega)) z⟩
    exact q_refine101 hD hB hI.fi (fun gr' hgr => hp n f s ne gr' sa ol fi ⟨hI.can, hI.al⟩ hgr hI.sa)
  · rintro k i ⟨n, f, s, ne, sa, ol, fi⟩ hi hI hk
    dsimp only at hI hk ⊢
    have hni := hI.can.le
    have hin := au_in hD hi
    have hgi := hg5 i hi
    refine ⟨fun z => absurd z (nI_ge hi (by omega)), fun _ => ⟨vp_in_nI (by omega) (by omega), ?_⟩⟩
    rw [nI_clamp (by omega), hB.fo i hi, nI_1, hg i hi, nI_clamp (n := g i) (by omega), nI_clamp (n := n) (by omega), nI_1]
    refine q_homeOf hD hB hg hg5 hI hi (fun h hh hal => ⟨fun _ => ⟨hin, ?_⟩, fun z => absurd z (nI_nm1 (by omega))⟩) (fun hno => ⟨fun z => absurd rfl z, fun _ => ?_⟩)
    · refine hk (n, updN f i h, s, ne, sa, ol, upd fi (nd D.sets i).toNatClampNeg (nI h)) ⟨hI.can.old hh, al_old hI.can hI.al hh hal, hI.sa, fun a ha => ?_, hI.ne, hI.ol⟩
      dsimp only
      by_cases e : a = i
      · subst e; rw [pk_us, updN_s]
      · rw [pk_un (fun q => e (au_cinj hD (by omega) hi q)), updN_n e]
        exact hI.fi a (by omega)
    · have hn5 : vp_in (nI n) 512 := vp_in_nI (by omega) (by omega)
      have hg6 : vp_in (nI (g i)) 512 := vp_in_nI hgi (by omega)
      refine ⟨hn5, hin, hg6, hn5, hin, hg6, hin, ?_⟩
      refine hk (n + 1, updN f i n, updN s n i, upd ne (g i) (nI n), upd sa n (nd D.sets i), upd ol n (ne (g i)), upd fi (nd D.sets i).toNatClampNeg (nI n)) ⟨hI.can.new, al_new hI.can hI.al hno, fun h hh => ?_, fun a ha => ?_, fun v hv => ?_, fun h hh => ?_⟩
      · dsimp only at hh ⊢
        by_cases e : h = n
        · subst e; rw [pk_us, updN_s]
        · rw [pk_un e, updN_n e]; exact hI.sa h (by omega)
      · dsimp only
        by_cases e : a = i
        · subst e; rw [pk_us, updN_s]
        · rw [pk_un (fun q => e (au_cinj hD (by omega) hi q)), updN_n e]
          exact hI.fi a (by omega)
      · dsimp only
        by_cases e : v = g i
        · subst e
          refine Or.inr ⟨n, by omega, pk_us, by rw [updN_s], fun h' h1 h2 => by omega⟩
        · rw [pk_un e]
          rcases hI.ne v hv with ⟨a, b⟩ | ⟨h, a, b, c, d⟩
          · refine Or.inl ⟨a, fun h hh => ?_⟩
            by_cases q : h = n
            · subst q; rw [updN_s]; exact fun y => e y.symm
            · rw [updN_n q]; exact b h (by omega)
          · refine Or.inr ⟨h, by omega, b, by rw [updN_n (by omega)]; exact c, fun h' h1 h2 => ?_⟩
            by_cases q : h' = n
            · subst q; rw [updN_s]; exact fun y => e y.symm
            · rw [updN_n q]; exact d h' h1 (by omega)
      · dsimp only at hh ⊢
        have hPM : ∀ lim, lim ≤ n → ∀ v x, PM g s lim v x → PM g (updN s n i) lim v x := fun lim hl v x hx => by
          rcases hx with ⟨a, b⟩ | ⟨h, a, b, c, d⟩
          · exact Or.inl ⟨a, fun h hh => by rw [updN_n (by omega)]; exact b h hh⟩
          · exact Or.inr ⟨h, a, b, by rw [updN_n (by omega)]; exact c, fun h' h1 h2 => by rw [updN_n (by omega)]; exact d h' h1 h2⟩
        by_cases e : h = n
        · subst e
          rw [pk_us, updN_s]
          exact hPM _ (Nat.le_refl _) _ _ (hI.ne _ hgi)
        · rw [pk_un e, updN_n e]
          exact hPM _ (by omega) _ _ (hI.ol h (by omega))
/-- the rows of a machine: its winners and its steps, by states -/
def Mach (A : Auto) (g : Nat → Nat) (n : Nat) (s : Nat → Nat) (fa fw : Nat → Int32) : Prop :=
  (∀ h, h < n → fw h = A.wn (s h)) ∧
  (∀ h c, h < n → c < 6 → fa (6 * h + c) = gA g (A.to (s h) c))
theorem Mach.w {A : Auto} {g : Nat → Nat} {n : Nat} {s : Nat → Nat} {fa fw : Nat → Int32} (h_ : Mach A g n s fa fw) : ∀ h, h < n → fw h = A.wn (s h) := h_.1
theorem Mach.a {A : Auto} {g : Nat → Nat} {n : Nat} {s : Nat → Nat} {fa fw : Nat → Int32} (h_ : Mach A g n s fa fw) : ∀ h c, h < n → c < 6 → fa (6 * h + c) = gA g (A.to (s h) c) := h_.2

theorem q_machineOf {D : Md} (hD : DOk D) {be pl fo gr sa : Nat → Int32} (hB : BR D be pl fo) {g s : Nat → Nat} {n : Nat} (hg : LG D gr g) (hn : n ≤ 512) (hsN : ∀ h, h < n → s h < D.sets.length) (hsa : ∀ h, h < n → sa h = nd D.sets (s h)) {post : Nat → (Nat → Int32) → Nat → (Nat → Int32) → Int32 → Int32 → Prop}
    (hp : ∀ fa fw, Mach D.au g n s fa fw → post (n * 6) fa n fw (-1) 0) : p_MachineBuilder_machineOf sa (nI D.P) D.la D.ru be pl gr (nI n) post := by
  have e6 : nI n * 6 = nI (n * 6) := pk_mul n 6
  have ix : ∀ h c, nI h * 6 + nI c = nI (6 * h + c) := fun h c => by rw [show (6 : Int32) = nI 6 from rfl, pk_mul, nI_add, Nat.mul_comm]
  unfold p_MachineBuilder_machineOf
  rw [e6, nI_clamp (by omega), nI_clamp (by omega)]
  refine ⟨nI_pos (by omega), by omega, nI_pos (by omega), hn, ?_⟩
  refine pk_loop (σ := (Nat → Int32) × (Nat → Int32)) (fun k h q => p_MachineBuilder_machineOf_15 sa (nI D.P) D.la D.ru be pl gr (nI n) post k (nI h) q.1 q.2) (fun h q => (∀ h', h' < h → q.2 h' = D.au.wn (s h')) ∧ ∀ h' c, h' < h → c < 6 → q.1 (6 * h' + c) = gA g (D.au.to (s h') c)) n 0 (fun _ => 0, fun _ => 0) (Nat.zero_le _) ⟨fun h' hh => absurd hh (Nat.not_lt_zero _), fun h' c hh => absurd hh (Nat.not_lt_zero _)⟩ ?_ ?_
  · rintro k ⟨fa, fw⟩ hI
    refine ⟨fun _ => ?_, fun z => absurd (nI_le (Nat.le_refl _) (by omega)) z⟩
    show post ((nI n * 6).toNatClampNeg) fa (nI n).toNatClampNeg fw _ _
    rw [e6, nI_clamp (by omega), nI_clamp (by omega)]
    exact hp fa fw ⟨hI.1, hI.2⟩
  · rintro k h ⟨fa, fw⟩ hh hI hk
    dsimp only at hI hk ⊢
    refine ⟨fun z => absurd z (nI_ge hh (by omega)), fun _ => ⟨vp_in_nI (by omega) (by omega), ?_⟩⟩
    rw [nI_clamp (by omega), hsa h hh, nI_clamp (n := n) (by omega)]
    refine q_winnerOfM hD.hP ⟨vp_in_nI hh (by omega), ?_⟩
    refine pk_loop (fun m c fa => p_MachineBuilder_machineOf_40 sa be pl gr (nI n) post (p_MachineBuilder_machineOf_15 sa (nI D.P) D.la D.ru be pl gr (nI n) post k) m (nI h) (nI c) fa (upd fw h (D.win (nd D.sets (s h))))) (fun c fa => (∀ h' c', h' < h → c' < 6 → fa (6 * h' + c') = gA g (D.au.to (s h') c')) ∧ ∀ c', c' < c → fa (6 * h + c') = gA g (D.au.to (s h) c')) 6 0 fa (Nat.zero_le _) ⟨hI.2, fun c' hc => absurd hc (Nat.not_lt_zero _)⟩ ?_ ?_
    · intro m fa hJ
      refine ⟨fun _ => ?_, fun z => absurd (by decide) z⟩
      show p_MachineBuilder_machineOf_15 sa (nI D.P) D.la D.ru be pl gr (nI n) post k (nI h + 1) fa _
      rw [nI_1]
      refine hk (fa, upd fw h (D.win (nd D.sets (s h)))) ⟨fun h' hh' => ?_, fun h' c hh' hc => ?_⟩
      · show upd fw h (D.win (nd D.sets (s h))) h' = _
        by_cases e : h' = h
        · subst e; rw [pk_us]; rfl
        · rw [pk_un e]; exact hI.1 h' (by omega)
      · by_cases e : h' = h
        · subst e; exact hJ.2 c hc
        · exact hJ.1 h' c (by omega) hc
    · intro m c fa hc hJ hm
      refine ⟨fun z => absurd z (nI_ge (b := 6) hc (by omega)), fun _ => ⟨vp_in_nI (by omega) (by omega), ?_⟩⟩
      rw [nI_clamp (by omega), hsa h hh]
      refine q_groupAfter hD hB hg (hsN h hh) hc ?_
      rw [ix, e6, nI_clamp (n := n * 6) (by omega), nI_clamp (n := 6 * h + c) (by omega), nI_1]
      refine ⟨vp_in_nI (by omega) (by omega), hm _ ⟨fun h' c' h1 h2 => ?_, fun c' h1 => ?_⟩⟩
      · rw [pk_un (by omega)]; exact hJ.1 h' c' h1 h2
      · by_cases e : c' = c
        · subst e; rw [pk_us]
        · rw [pk_un (by omega)]; exact hJ.2 c' (by omega)
theorem q_build {D : Md} (hD : DOk D) {fc : Int32} {pl gr fo be ne sa ol fi : Nat → Int32} {post : Int32 → (Nat → Int32) → (Nat → Int32) → (Nat → Int32) → (Nat → Int32) → (Nat → Int32) → (Nat → Int32) → (Nat → Int32) → (Nat → Int32) → Nat → (Nat → Int32) → Nat → (Nat → Int32) → Int32 → Int32 → Prop}
    (hp : ∀ fc' pl' gr' fo' be' ne' sa' ol' fi' (n : Nat) (g s : Nat → Nat) fa fw, Mini D.au g n s → Mach D.au g n s fa fw → post fc' pl' gr' fo' be' ne' sa' ol' fi' (n * 6) fa n fw (-1) 0) : p_MachineBuilder_build fc (nI D.P) D.fi D.la D.lt pl gr fo D.fo be D.ru ne sa ol fi post := by
  have hA := au_ok hD
  have hle := hA.le
  refine q_findSets hD (fun fc pl gr fo be hpl hC => ?_)
  have hfc := hC.cfc
  subst hfc
  have hB : BR D be pl fo := ⟨hC.cbe, hpl, hC.cfo⟩
  have key : ∀ (d r cnt : Nat) (g : Nat → Nat) (gr ne sa ol fi : Nat → Int32), r + d = 513 → r ≤ cnt → cnt ≤ 512 → LG D gr g → Lab D.au g → (cnt = 0 ∨ ∃ s, Canon D.au.N g cnt s) → p_MachineBuilder_build_9 (nI D.P) D.la D.ru post (d + 1) (nI cnt) (nI r) (nI D.sets.length) pl gr fo be ne sa ol fi := by
    intro d
    induction d with
    | zero => intro r cnt g gr ne sa ol fi h1 h2 h3; omega
    | succ d ih =>
      intro r cnt g gr ne sa ol fi h1 h2 h3 hg hl hcan
      refine ⟨fun z => absurd z (nI_nlt (a := 512) (by omega) (by omega)), fun _ => q_refine hD hB hl.lt hg (fun n f s ne' gr' sa' ol' fi' hF hgr hsa => ?_)⟩
      have hnN := hF.can.le
      have hnpos := hF.pos hA
      have hgrow : cnt ≤ n := by
        rcases hcan with z | ⟨s0, hc⟩
        · omega
        · exact hF.grow hc
      refine ⟨fun e => ?_, fun e => ?_⟩
      · rw [nI_1]
        have hne : n ≠ cnt := fun q => e (by rw [q])
        exact ih (r + 1) n f gr' ne' sa' ol' fi' (by omega) (by omega) (by omega) hgr (hF.lab hA hl) (Or.inr ⟨s, hF.can⟩)
      · have e' : n = cnt := (nI_eq (by omega) (by omega)).mp e
        subst e'
        have hM : Mini D.au f n s := by
          rcases hcan with z | ⟨s0, hc⟩
          · omega
          · exact hF.done hA hl hc
        exact q_machineOf hD hB hgr (by omega) (fun h hh => (hF.can.1 h hh).1) hsa (fun fa fw hm => hp _ _ _ _ _ _ _ _ _ n f s fa fw hM hm)
  -- the labels at first: the winners and one
  have hw : ∀ k : Nat, ∃ r, r < 17 ∧ D.win (nd D.sets k) + 1 = nI r := fun k => by
    obtain ⟨r, h1, h2, -⟩ := hD.win1 (nd D.sets k)
    exact ⟨r, h1, h2⟩
  let g : Nat → Nat := fun k => Classical.choose (hw k)
  have hg : ∀ k, g k < 17 ∧ D.win (nd D.sets k) + 1 = nI (g k) := fun k => Classical.choose_spec (hw k)
  refine ⟨514, key 513 0 0 g _ _ _ _ _ (by omega) (Nat.le_refl _) (by omega) (fun k hk => ?_) ⟨fun i hi => by have := (hg i).1; omega, fun i j hi hj e => ?_, fun i j hi hj e => ?_⟩ (Or.inl rfl)⟩
  · obtain ⟨j, hj, e, m, ce⟩ := au_j hD hk
    rw [ce, hC.cgr j m hj, ← e]
    exact (hg k).2
  · have h1 := e.wn
    have h2 : nI (g i) = nI (g j) := by
      rw [← (hg i).2, ← (hg j).2]
      show D.au.wn i + 1 = D.au.wn j + 1
      rw [h1]
    exact (nI_eq (by have := (hg i).1; omega) (by have := (hg j).1; omega)).mp h2
  · have h1 : D.win (nd D.sets i) + 1 = D.win (nd D.sets j) + 1 := by
      rw [(hg i).2, (hg j).2, e]
    have h2 : ∀ a b : Int32, a + 1 = b + 1 → a = b := fun a b q => by
      have : a + 1 - 1 = b + 1 - 1 := by rw [q]
      simpa using this
    exact h2 _ _ h1
