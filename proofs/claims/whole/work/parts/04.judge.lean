/-! ===== the world of a heap, and the judgement ===== -/
def nv_w (ad : Nat → Nat) (cA : Nat → ClassId) (σ : nv_Sg) : va_W := (List.range σ.2.2).map (fun k => (ad k, nv_ce ad cA σ.1 σ.2.1 k (nv_shp k)))
theorem nv_w_len {ad : Nat → Nat} {cA : Nat → ClassId} {σ : nv_Sg} : (nv_w ad cA σ).length = σ.2.2 := by simp [nv_w]
theorem nv_w_get {ad : Nat → Nat} {cA : Nat → ClassId} {σ : nv_Sg} {k : Nat} (hk : k < σ.2.2) : (nv_w ad cA σ)[k]? = some (ad k, nv_ce ad cA σ.1 σ.2.1 k (nv_shp k)) := by
  unfold nv_w
  rw [List.getElem?_map, List.getElem?_range hk]
  rfl
theorem nv_w_set {ad : Nat → Nat} {cA : Nat → ClassId} {h h' : nv_Hp} {z z' : nv_Zp} {n k : Nat} {e : va_E} (hk : k < n) (he : e = nv_ce ad cA h' z' k (nv_shp k)) (h1 : ∀ a i, a ≠ k → h' a i = h a i) (h2 : ∀ a i, a ≠ k → z' a i = z a i) : (nv_w ad cA (h, z, n)).set k (ad k, e) = nv_w ad cA (h', z', n) := by
  apply List.ext_getElem?
  intro i
  by_cases hi : i = k
  · subst hi
    rw [List.getElem?_set_self (by rw [nv_w_len]; exact hk), nv_w_get (σ := (h', z', n)) hk, he]
  · rw [List.getElem?_set_ne (Ne.symm hi)]
    by_cases hn : i < n
    · rw [nv_w_get (σ := (h, z, n)) hn, nv_w_get (σ := (h', z', n)) hn]
      show some (ad i, nv_ce ad cA h z i (nv_shp i)) = some (ad i, nv_ce ad cA h' z' i (nv_shp i))
      rw [nv_ce_cong (nv_shp i) (fun j => h1 i j hi) (fun j => h2 i j hi)]
    · rw [List.getElem?_eq_none (by rw [nv_w_len]; exact Nat.not_lt.mp hn), List.getElem?_eq_none (by rw [nv_w_len]; exact Nat.not_lt.mp hn)]
/-- locals, by place -/
def nv_ll (ad : Nat → Nat) : Nat → List (Option Value) → List (Nat × Value)
  | _, [] => []
  | k, none :: t => nv_ll ad (k + 1) t
  | k, some v :: t => (k, nv_cV ad v) :: nv_ll ad (k + 1) t
theorem nv_ll_mem (ad : Nat → Nat) : ∀ (ls : List (Option Value)) (k : Nat) (q : Nat × Value), q ∈ nv_ll ad k ls ↔ ∃ (j : Nat) (v : Value), q = (k + j, nv_cV ad v) ∧ ls[j]? = some (some v)
  | [], k, q => by simp [nv_ll]
  | o :: t, k, q => by
    have ih := nv_ll_mem ad t (k + 1) q
    constructor
    · intro h
      cases o with
      | none =>
        obtain ⟨j, v, h1, h2⟩ := ih.mp h
        exact ⟨j + 1, v, by rw [h1]; simp only [Nat.add_assoc, Nat.add_comm 1 j], h2⟩
      | some v =>
        rcases List.mem_cons.mp h with h | h
        · exact ⟨0, v, h, rfl⟩
        · obtain ⟨j, v, h1, h2⟩ := ih.mp h
          exact ⟨j + 1, v, by rw [h1]; simp only [Nat.add_assoc, Nat.add_comm 1 j], h2⟩
    · rintro ⟨j, v, h1, h2⟩
      cases j with
      | zero =>
        rw [List.getElem?_cons_zero] at h2
        cases h2
        exact List.mem_cons.mpr (Or.inl h1)
      | succ j =>
        rw [List.getElem?_cons_succ] at h2
        have h3 : q ∈ nv_ll ad (k + 1) t := ih.mpr ⟨j, v, by rw [h1]; simp only [Nat.add_assoc, Nat.add_comm 1 j], h2⟩
        cases o with
        | none => exact h3
        | some w => exact List.mem_cons.mpr (Or.inr h3)
theorem nv_lget {ad : Nat → Nat} {lsC : Array Slot} {nL i : Nat} {ls : List (Option Value)} {v : Value} (h : lv_has lsC nL (nv_ll ad 0 ls)) (hi : ls[i]? = some (some v)) : lsC[i]? = some (.val (nv_cV ad v)) :=
  h.2.2 (i, nv_cV ad v) ((nv_ll_mem ad ls 0 _).mpr ⟨i, v, by simp, hi⟩)
/-- what stands just ahead of place i is of one slot -/
def nv_nl (ls : List (Option Value)) : Nat → Bool
  | 0 => true
  | j + 1 => match ls[j]? with
    | some (some (.long _)) => false
    | some (some (.double _)) => false
    | _ => true
theorem nv_nl_cat {ls : List (Option Value)} {j : Nat} {v : Value} (h : nv_nl ls (j + 1) = true) (hv : ls[j]? = some (some v)) : ¬ v.category = 2 := by
  simp only [nv_nl, hv] at h
  cases v <;> simp_all [Value.category]
theorem nv_ll_set1 {ad : Nat → Nat} {lsC : Array Slot} {nL i : Nat} {ls : List (Option Value)} {v : Value} (hnl : nv_nl ls i = true) (h : lv_has lsC nL ((i, nv_cV ad v) :: (nv_ll ad 0 ls).filter (fun q => !(q.1 == i) && !(q.1 + 1 == i && q.2.category == 2)))) : lv_has lsC nL (nv_ll ad 0 (ls.set i (some v))) := by
  refine ⟨h.1, h.2.1, fun q hq => h.2.2 q ?_⟩
  obtain ⟨j, w, h1, h2⟩ := (nv_ll_mem ad _ 0 q).mp hq
  rw [Nat.zero_add] at h1
  by_cases hj : j = i
  · subst hj
    by_cases hl : j < ls.length
    · rw [List.getElem?_set_self hl] at h2
      cases h2
      exact List.mem_cons.mpr (Or.inl h1)
    · rw [List.getElem?_eq_none (by rw [List.length_set]; omega)] at h2
      cases h2
  · rw [List.getElem?_set_ne (Ne.symm hj)] at h2
    refine List.mem_cons.mpr (Or.inr (List.mem_filter.mpr ⟨(nv_ll_mem ad _ 0 q).mpr ⟨j, w, by rw [Nat.zero_add]; exact h1, h2⟩, ?_⟩))
    subst h1
    simp only [Bool.and_eq_true, Bool.not_eq_true', beq_eq_false_iff_ne, Bool.and_eq_false_iff]
    refine ⟨hj, ?_⟩
    by_cases hji : j + 1 = i
    · subst hji
      right
      rw [nv_cV_cat]
      exact nv_nl_cat hnl h2
    · exact Or.inl hji
theorem nv_ll_set2 {ad : Nat → Nat} {lsC : Array Slot} {nL i : Nat} {ls : List (Option Value)} {v : Value} (hnl : nv_nl ls i = true) (h : lv_has lsC nL ((i, nv_cV ad v) :: (nv_ll ad 0 ls).filter (fun q => !(q.1 == i) && (!(q.1 == i + 1) && !(q.1 + 1 == i && q.2.category == 2))))) : lv_has lsC nL (nv_ll ad 0 ((ls.set i (some v)).set (i + 1) none)) := by
  refine ⟨h.1, h.2.1, fun q hq => h.2.2 q ?_⟩
  obtain ⟨j, w, h1, h2⟩ := (nv_ll_mem ad _ 0 q).mp hq
  rw [Nat.zero_add] at h1
  have hj1 : j ≠ i + 1 := by
    intro e
    subst e
    by_cases hl : i + 1 < (ls.set i (some v)).length
    · rw [List.getElem?_set_self hl] at h2
      cases h2
    · rw [List.getElem?_eq_none (by rw [List.length_set]; omega)] at h2
      cases h2
  rw [List.getElem?_set_ne (Ne.symm hj1)] at h2
  by_cases hj : j = i
  · subst hj
    by_cases hl : j < ls.length
    · rw [List.getElem?_set_self hl] at h2
      cases h2
      exact List.mem_cons.mpr (Or.inl h1)
    · rw [List.getElem?_eq_none (by rw [List.length_set]; omega)] at h2
      cases h2
  · rw [List.getElem?_set_ne (Ne.symm hj)] at h2
    refine List.mem_cons.mpr (Or.inr (List.mem_filter.mpr ⟨(nv_ll_mem ad _ 0 q).mpr ⟨j, w, by rw [Nat.zero_add]; exact h1, h2⟩, ?_⟩))
    subst h1
    simp only [Bool.and_eq_true, Bool.not_eq_true', beq_eq_false_iff_ne, Bool.and_eq_false_iff]
    refine ⟨hj, hj1, ?_⟩
    by_cases hji : j + 1 = i
    · subst hji
      right
      rw [nv_cV_cat]
      exact nv_nl_cat hnl h2
    · exact Or.inl hji
/-- statics, the script, array classes: what is given of a state, apart from the cells A -/
def nv_S (G : nv_G) (A : Nat → Prop) (U : State) : Prop :=
  (∀ (i : Nat) (ty : FieldType) (nm ds : String) (l : List Int32), nv_stat i = some (ty, nm, ds, l) → va_T ty (G.2.2.2.1 i) l.length (fun j => .int (l.getD j 0)) A U U.heap ∧ va_Z "WhoseName" nm ds (.ref (G.2.2.2.1 i)) A U U.heap) ∧
  (va_X (G.2.2.2.1 9) G.2.2.2.2.1 G.2.2.2.2.2 U U.heap ∧ G.2.2.2.1 9 < U.heap.size ∧ ¬ A (G.2.2.2.1 9)) ∧ (∀ C ∈ nv_aon, va_AO C U) ∧ ∀ w ∈ nv_nst, va_Nw w U
theorem nv_S.go {G : nv_G} {A B : Nat → Prop} {s U : State} (h : nv_S G A s) (hvm : s.vm.Alike U.vm) (hq : s.heap.size ≤ U.heap.size ∧ ∀ q : Nat, q < s.heap.size → ¬ A q → U.heap[q]? = s.heap[q]?) (hAB : ∀ q, B q → A q) (hN : ∀ w ∈ nv_nst, va_Nw w s → va_Nw w U) : nv_S G B U := by
  obtain ⟨h1, ⟨h2, h3, h4⟩, h5, h6⟩ := h
  refine ⟨fun i ty nm ds l hi => ?_, ⟨?_, Nat.lt_of_lt_of_le h3 hq.1, fun z => h4 (hAB _ z)⟩, fun C hC => (h5 C hC).moved hvm, fun w hw => hN w hw (h6 w hw)⟩
  · obtain ⟨a, b⟩ := h1 i ty nm ds l hi
    exact ⟨((a.kept hq.2).narrow hAB).moved hvm, ((b.kept hq.2).narrow hAB).moved hvm⟩
  · exact (h2.kept (hq.2 _ h3 h4)).moved hvm
theorem nv_nst_warm {s U : State} (hW : s.WarmedH U.vm) : ∀ w ∈ nv_nst, va_Nw w s → va_Nw w U := by
  intro w hw
  unfold nv_nst at hw
  simp only [List.mem_cons, List.not_mem_nil, or_false] at hw
  rcases hw with rfl | rfl | rfl | rfl | rfl | rfl | rfl | rfl <;> first | exact va_Nw.warmF hW | exact va_Nw.warmM hW
theorem nv_nst_same {s U : State} (h : s.vm = U.vm) : ∀ w ∈ nv_nst, va_Nw w s → va_Nw w U := by
  intro w hw
  unfold nv_nst at hw
  simp only [List.mem_cons, List.not_mem_nil, or_false] at hw
  rcases hw with rfl | rfl | rfl | rfl | rfl | rfl | rfl | rfl <;> exact va_Nw.same rfl h
abbrev nv_n (r : nv_R) : Nat := r.2.2.2
/-- what a method leaves -/
def nv_Q (G : nv_G) (n0 : Nat) (ad0 : Nat → Nat) (A : Nat → Prop) (r : nv_R) : Array Value → State → Outcome → State → Prop := fun _ st oc t =>
  (∃ ad : Nat → Nat, (∀ k, (k < n0 ∨ nv_n r ≤ k) → ad k = ad0 k) ∧ oc = .returned (r.1.map (nv_cV ad)) ∧ va_P G.2.1 nv_cls (nv_w ad G.2.2.1 r.2) t.heap ∧ va_D A (nv_w ad G.2.2.1 r.2)) ∧ va_F A st t
def nv_P (G : nv_G) (ad : Nat → Nat) (sz : Nat) (av : List Value) (σ : nv_Sg) : Array Value → State → Prop :=
  va_Pc (av.map (nv_cV ad)) (fun U => U.heap.size = sz ∧ va_P G.2.1 nv_cls (nv_w ad G.2.2.1 σ) U.heap ∧ va_K G.2.1 nv_cls (nv_tys G.2.2.1) U ∧ va_D (fun _ => True) (nv_w ad G.2.2.1 σ) ∧ nv_S G (va_A (nv_w ad G.2.2.1 σ) sz) U)
/-- a method's contract: depth d, arguments av, from the heap σ to answer and heap r -/
def nv_Mt (G : nv_G) (d : Nat) (M : nv_MI) (av : List Value) (σ : nv_Sg) (r : nv_R) : Prop :=
  σ.2.2 ≤ nv_n r ∧ nv_n r ≤ 1000 ∧ ∀ (ad : Nat → Nat) (sz : Nat), (∀ i, ad (1000 + i) = G.2.2.2.1 i) →
    Met G.1 M.1 (.code M.1 M.2.1 M.2.2.1 M.2.2.2 :: nv_gt) { frames := d, cells := nv_n r - σ.2.2, slots := nv_sl (nv_n r) - nv_sl σ.2.2, locals := 40 * d } (nv_P G ad sz av σ) (nv_Q G σ.2.2 ad (va_A (nv_w ad G.2.2.1 σ) sz) r) (nv_n r - σ.2.2) (nv_sl (nv_n r) - nv_sl σ.2.2) (va_A (nv_w ad G.2.2.1 σ) sz)
theorem nv_sl_mono : ∀ {a b : Nat}, a ≤ b → nv_sl a ≤ nv_sl b := by
  intro a b h
  induction h with
  | refl => exact Nat.le_refl _
  | step _ ih => exact Nat.le_trans ih (Nat.le_add_right _ _)
/-- the frame's own, fixed part -/
def nv_C (G : nv_G) (d : Nat) (M : nv_MI) (r : nv_R) (p : Program) (R : Room) (s : State) (m : MethodId) (args : Array Value) (meth : Method) (c : Code) (n0 : Nat) (A : Nat → Prop) : Prop :=
  p.tables.exec = Jvm.exec ∧ c.code = M.2.1 ∧ c.maxLocals = M.2.2.1 ∧ s.vm.findClass M.1.cls = some m.cls ∧ (∀ w ∈ nv_gt, w.before args s = true) ∧ va_K G.2.1 nv_cls (nv_tys G.2.2.1) s ∧ (∀ q, s.heap.size ≤ q → A q) ∧ nv_S G A s ∧ (M.1.name = "<init>" → meth.name = "<init>") ∧
  (d ≤ R.frames ∧ 40 * d ≤ R.locals ∧ nv_n r - n0 ≤ R.cells ∧ nv_sl (nv_n r) - nv_sl n0 ≤ R.slots)
/-- the frame's moving part -/
def nv_V (G : nv_G) (r : nv_R) (s : State) (n0 : Nat) (ad0 : Nat → Nat) (A : Nat → Prop) (ad : Nat → Nat) (σ : nv_Sg) (H : Heap) (locs : List Loc) : Prop :=
  (n0 ≤ σ.2.2 ∧ σ.2.2 ≤ nv_n r ∧ nv_n r ≤ 1000) ∧ (∀ k, (k < n0 ∨ nv_n r ≤ k) → ad k = ad0 k) ∧ (∀ i, ad (1000 + i) = G.2.2.2.1 i) ∧ va_P G.2.1 nv_cls (nv_w ad G.2.2.1 σ) H ∧ va_D A (nv_w ad G.2.2.1 σ) ∧ va_S A s.heap H locs
/-- how a return is met -/
def nv_rt (M : nv_MI) (pc : Nat) : Option Value → Prop
  | none => decode M.2.1 pc = .ok (.return_, 1) ∧ M.2.2.2 = none
  | some (.int v) => decode M.2.1 pc = .ok (.ireturn, 1) ∧ ∃ ty, M.2.2.2 = some ty ∧ narrow ty (.int v) = .int v
  | some (.long _) => decode M.2.1 pc = .ok (.lreturn, 1) ∧ M.2.2.2 = some .long
  | _ => False
def nv_X (G : nv_G) (M : nv_MI) (r : nv_R) (p : Program) (e : Env) (R : Room) (s : State) (m : MethodId) (args : Array Value) (below : List Frame) (meth : Method) (c : Code) (n0 : Nat) (ad0 : Nat → Nat) (A : Nat → Prop) (Q : State → Prop) : Prop :=
  ∀ (ad : Nat → Nat) (H : Heap) (locs : List Loc) (lsC : Array Slot) (pc : Nat), nv_V G r s n0 ad0 A ad r.2 H locs → nv_rt M pc r.1 → W p G.1 e R s m args below meth c H locs (nv_n r - n0) (nv_sl (nv_n r) - nv_sl n0) Q (F0 m pc lsC (r.1.map (nv_cV ad)).toList)
def nv_E (G : nv_G) (d : Nat) (M : nv_MI) (pc : Nat) (ls : List (Option Value)) (st : List Value) (σ : nv_Sg) (r : nv_R) : Prop :=
  ∀ (p : Program) (e : Env) (R : Room) (s : State) (m : MethodId) (args : Array Value) (below : List Frame) (meth : Method) (c : Code) (n0 : Nat) (ad0 : Nat → Nat) (A : Nat → Prop) (Q : State → Prop),
    nv_C G d M r p R s m args meth c n0 A → nv_X G M r p e R s m args below meth c n0 ad0 A Q →
    ∀ (ad : Nat → Nat) (H : Heap) (locs : List Loc) (lsC : Array Slot), nv_V G r s n0 ad0 A ad σ H locs → lv_has lsC M.2.2.1 (nv_ll ad 0 ls) →
      W p G.1 e R s m args below meth c H locs (σ.2.2 - n0) (nv_sl σ.2.2 - nv_sl n0) Q (F0 m pc lsC (st.map (nv_cV ad)))
