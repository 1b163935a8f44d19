/-! ===== loads, stores and constants in one form each ===== -/
def nv_dk (M : nv_MI) (pc : Nat) (v : Int32) (nx : Nat) : Prop := (∃ n : Int, nv_dc M pc (.iconst n) 1 nx ∧ Int32.ofInt n = v) ∨ (∃ n : Int, nv_dc M pc (.bipush n) 2 nx ∧ (Int8.ofInt n).toInt32 = v) ∨ (∃ n : Int, nv_dc M pc (.sipush n) 3 nx ∧ (Int16.ofInt n).toInt32 = v)
def nv_diload (M : nv_MI) (pc i nx : Nat) : Prop := nv_dc M pc (.iload i) 2 nx ∨ ∃ k : Fin 4, (k : Nat) = i ∧ nv_dc M pc (.iload_n k) 1 nx
def nv_dlload (M : nv_MI) (pc i nx : Nat) : Prop := nv_dc M pc (.lload i) 2 nx ∨ ∃ k : Fin 4, (k : Nat) = i ∧ nv_dc M pc (.lload_n k) 1 nx
def nv_daload (M : nv_MI) (pc i nx : Nat) : Prop := nv_dc M pc (.aload i) 2 nx ∨ ∃ k : Fin 4, (k : Nat) = i ∧ nv_dc M pc (.aload_n k) 1 nx
def nv_distore (M : nv_MI) (pc i nx : Nat) : Prop := nv_dc M pc (.istore i) 2 nx ∨ ∃ k : Fin 4, (k : Nat) = i ∧ nv_dc M pc (.istore_n k) 1 nx
def nv_dlstore (M : nv_MI) (pc i nx : Nat) : Prop := nv_dc M pc (.lstore i) 2 nx ∨ ∃ k : Fin 4, (k : Nat) = i ∧ nv_dc M pc (.lstore_n k) 1 nx
def nv_dastore (M : nv_MI) (pc i nx : Nat) : Prop := nv_dc M pc (.astore i) 2 nx ∨ ∃ k : Fin 4, (k : Nat) = i ∧ nv_dc M pc (.astore_n k) 1 nx
section
variable {G : nv_G} {d : Nat} {M : nv_MI} {pc nx i : Nat} {ls : List (Option Value)} {st : List Value} {σ : nv_Sg} {r : nv_R}
theorem nv_k {v : Int32} (hi : nv_dk M pc v nx) (K : nv_E G d M nx ls (.int v :: st) σ r) : nv_E G d M pc ls st σ r := by
  rcases hi with ⟨n, hi, hv⟩ | ⟨n, hi, hv⟩ | ⟨n, hi, hv⟩
  · exact nv_iconst hi hv K
  · exact nv_bipush hi hv K
  · exact nv_sipush hi hv K
theorem nv_iL {x : Int32} (hi : nv_diload M pc i nx) (hv : ls[i]? = some (some (.int x))) (K : nv_E G d M nx ls (.int x :: st) σ r) : nv_E G d M pc ls st σ r := by
  rcases hi with hi | ⟨k, rfl, hi⟩
  · exact nv_iload hi hv K
  · exact nv_iloadn hi hv K
theorem nv_lL {x : Int64} (hi : nv_dlload M pc i nx) (hv : ls[i]? = some (some (.long x))) (K : nv_E G d M nx ls (.long x :: st) σ r) : nv_E G d M pc ls st σ r := by
  rcases hi with hi | ⟨k, rfl, hi⟩
  · exact nv_lload hi hv K
  · exact nv_lloadn hi hv K
theorem nv_aL {x : Nat} (hi : nv_daload M pc i nx) (hv : ls[i]? = some (some (.ref x))) (K : nv_E G d M nx ls (.ref x :: st) σ r) : nv_E G d M pc ls st σ r := by
  rcases hi with hi | ⟨k, rfl, hi⟩
  · exact nv_aload hi hv K
  · exact nv_aloadn hi hv K
theorem nv_iS {x : Int32} (hi : nv_distore M pc i nx) (hn : i < M.2.2.1) (hnl : nv_nl ls i = true) {ls' : List (Option Value)} (he : ls.set i (some (.int x)) = ls') (K : nv_E G d M nx ls' st σ r) : nv_E G d M pc ls (.int x :: st) σ r := by
  subst he
  rcases hi with hi | ⟨k, rfl, hi⟩
  · exact nv_istore hi hn hnl K
  · exact nv_istoren hi hn hnl K
theorem nv_aS {x : Nat} (hi : nv_dastore M pc i nx) (hn : i < M.2.2.1) (hnl : nv_nl ls i = true) {ls' : List (Option Value)} (he : ls.set i (some (.ref x)) = ls') (K : nv_E G d M nx ls' st σ r) : nv_E G d M pc ls (.ref x :: st) σ r := by
  subst he
  rcases hi with hi | ⟨k, rfl, hi⟩
  · exact nv_astore hi hn hnl K
  · exact nv_astoren hi hn hnl K
theorem nv_lS {x : Int64} (hi : nv_dlstore M pc i nx) (hn : i + 1 < M.2.2.1) (hnl : nv_nl ls i = true) {ls' : List (Option Value)} (he : (ls.set i (some (.long x))).set (i + 1) none = ls') (K : nv_E G d M nx ls' st σ r) : nv_E G d M pc ls (.long x :: st) σ r := by
  subst he
  rcases hi with hi | ⟨k, rfl, hi⟩
  · exact nv_lstore hi hn hnl K
  · exact nv_lstoren hi hn hnl K
theorem nv_inc {n : Int} {x v : Int32} (hi : nv_dc M pc (.iinc i n) 3 nx) (hv : ls[i]? = some (some (.int x))) (he : Int32.ofInt n = v) (hn : i < M.2.2.1) (hnl : nv_nl ls i = true) {ls' : List (Option Value)} (hl : ls.set i (some (.int (x + v))) = ls') (K : nv_E G d M nx ls' st σ r) : nv_E G d M pc ls st σ r := by
  subst hl
  subst he
  exact nv_iinc hi hv rfl hn hnl K
def fj_max (x y : Int32) : Int32 := if x < y then y else x
def nv_Lmax (own : String) (ix : Nat) : Prop := Cond.methodLink own ix Lib.Math.max.name ∈ nv_gt ∧ Cond.static Lib.Math.max.name ∈ nv_gt ∧ Cond.initialized "java/lang/Math" ∈ nv_gt ∧ Cond.code Lib.Math.max.name Lib.Math.max.code 2 (some .int) ∈ nv_gt
theorem nv_mmax {x y : Int32} {ix : Nat} (hi : nv_dc M pc (.invokestatic ix) 3 nx) (hL : nv_Lmax M.1.cls ix) (hd : 1 ≤ d) (hst : (st.map fun v => v.category).sum ≤ 8) (K : nv_E G d M nx ls (.int (fj_max x y) :: st) σ r) : nv_E G d M pc ls (.int y :: .int x :: st) σ r := by
  obtain ⟨hi, rfl⟩ := hi
  obtain ⟨l1, l2, l3, l4⟩ := hL
  intro p e R s m args below meth c n0 ad0 A Q hC hX ad H locs lsC hV hl
  have hT := hC.2.2.2.2.1
  have hr := hC.2.2.2.2.2.2.2.2.2
  have h1 := hV.1
  have h2 := nv_sl_mono hV.1.2.1
  have hcat := nv_cat8 (ad := ad) hst
  exact va_mmax hC.1 hC.2.1 (by rw [hC.2.2.1]; exact hl.1.symm) hC.2.2.2.1 (hT _ l1) (hT _ l2) (hT _ l3) (hT _ l4) (by omega) (by omega) (by omega) (by omega) hi (K p e R s m args below meth c n0 ad0 A Q hC hX ad H locs lsC hV hl)
def fj_min (x y : Int32) : Int32 := if y < x then y else x
def nv_Lmin (own : String) (ix : Nat) : Prop := Cond.methodLink own ix Lib.Math.min.name ∈ nv_gt ∧ Cond.static Lib.Math.min.name ∈ nv_gt ∧ Cond.initialized "java/lang/Math" ∈ nv_gt ∧ Cond.code Lib.Math.min.name Lib.Math.min.code 2 (some .int) ∈ nv_gt
theorem nv_mmin {x y : Int32} {ix : Nat} (hi : nv_dc M pc (.invokestatic ix) 3 nx) (hL : nv_Lmin M.1.cls ix) (hd : 1 ≤ d) (hst : (st.map fun v => v.category).sum ≤ 8) (K : nv_E G d M nx ls (.int (fj_min x y) :: st) σ r) : nv_E G d M pc ls (.int y :: .int x :: st) σ r := by
  obtain ⟨hi, rfl⟩ := hi
  obtain ⟨l1, l2, l3, l4⟩ := hL
  intro p e R s m args below meth c n0 ad0 A Q hC hX ad H locs lsC hV hl
  have hT := hC.2.2.2.2.1
  have hr := hC.2.2.2.2.2.2.2.2.2
  have h1 := hV.1
  have h2 := nv_sl_mono hV.1.2.1
  have hcat := nv_cat8 (ad := ad) hst
  exact va_mmin hC.1 hC.2.1 (by rw [hC.2.2.1]; exact hl.1.symm) hC.2.2.2.1 (hT _ l1) (hT _ l2) (hT _ l3) (hT _ l4) (by omega) (by omega) (by omega) (by omega) hi (K p e R s m args below meth c n0 ad0 A Q hC hX ad H locs lsC hV hl)
theorem nv_wk (j : Nat) {ls' : List (Option Value)} (he : ls.set j none = ls') (K : nv_E G d M pc ls' st σ r) : nv_E G d M pc ls st σ r := by
  subst he
  intro p e R s m args below meth c n0 ad0 A Q hC hX ad H locs lsC hV hl
  refine K p e R s m args below meth c n0 ad0 A Q hC hX ad H locs lsC hV ⟨hl.1, hl.2.1, fun q hq => hl.2.2 q ?_⟩
  obtain ⟨i, v, h1, h2⟩ := (nv_ll_mem ad _ 0 q).mp hq
  refine (nv_ll_mem ad _ 0 q).mpr ⟨i, v, h1, ?_⟩
  by_cases hij : i = j
  · subst hij
    by_cases hl : i < ls.length
    · rw [List.getElem?_set_self hl] at h2
      cases h2
    · rw [List.getElem?_eq_none (by rw [List.length_set]; omega)] at h2
      cases h2
  · rw [List.getElem?_set_ne (Ne.symm hij)] at h2
    exact h2
end
