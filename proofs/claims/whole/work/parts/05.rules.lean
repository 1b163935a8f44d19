/-! ===== rules, an instruction each ===== -/
def nv_dc (M : nv_MI) (pc : Nat) (i : Instr) (len nx : Nat) : Prop := decode M.2.1 pc = .ok (i, len) ∧ pc + len = nx
def nv_dif (M : nv_MI) (pc : Nat) (q : ClassFile.Cond) (tgt nx : Nat) : Prop := ∃ off : Int, decode M.2.1 pc = .ok (.ifCond q off, 3) ∧ (pc : Int) + off = (tgt : Int) ∧ pc + 3 = nx
def nv_dic (M : nv_MI) (pc : Nat) (q : ClassFile.Cond) (tgt nx : Nat) : Prop := ∃ off : Int, decode M.2.1 pc = .ok (.if_icmp q off, 3) ∧ (pc : Int) + off = (tgt : Int) ∧ pc + 3 = nx
def nv_dgo (M : nv_MI) (pc tgt : Nat) : Prop := ∃ off : Int, decode M.2.1 pc = .ok (.goto off, 3) ∧ (pc : Int) + off = (tgt : Int)
section
variable {G : nv_G} {d : Nat} {M : nv_MI} {pc nx tgt : Nat} {ls : List (Option Value)} {st : List Value} {σ : nv_Sg} {r : nv_R}
theorem nv_iconst {n : Int} {v : Int32} (hi : nv_dc M pc (.iconst n) 1 nx) (hv : Int32.ofInt n = v) (K : nv_E G d M nx ls (.int v :: st) σ r) : nv_E G d M pc ls st σ r := by
  obtain ⟨hi, rfl⟩ := hi
  exact fun p e R s m args below meth c n0 ad0 A Q hC hX ad H locs lsC hV hl => lv_iconst hC.1 hC.2.1 hi hv (K p e R s m args below meth c n0 ad0 A Q hC hX ad H locs lsC hV hl)
theorem nv_bipush {n : Int} {v : Int32} (hi : nv_dc M pc (.bipush n) 2 nx) (hv : (Int8.ofInt n).toInt32 = v) (K : nv_E G d M nx ls (.int v :: st) σ r) : nv_E G d M pc ls st σ r := by
  obtain ⟨hi, rfl⟩ := hi
  exact fun p e R s m args below meth c n0 ad0 A Q hC hX ad H locs lsC hV hl => lv_bipush hC.1 hC.2.1 hi hv (K p e R s m args below meth c n0 ad0 A Q hC hX ad H locs lsC hV hl)
theorem nv_sipush {n : Int} {v : Int32} (hi : nv_dc M pc (.sipush n) 3 nx) (hv : (Int16.ofInt n).toInt32 = v) (K : nv_E G d M nx ls (.int v :: st) σ r) : nv_E G d M pc ls st σ r := by
  obtain ⟨hi, rfl⟩ := hi
  exact fun p e R s m args below meth c n0 ad0 A Q hC hX ad H locs lsC hV hl => lv_sipush hC.1 hC.2.1 hi hv (K p e R s m args below meth c n0 ad0 A Q hC hX ad H locs lsC hV hl)
theorem nv_lconst {n : Fin 2} {v : Int64} (hi : nv_dc M pc (.lconst n) 1 nx) (hv : Int64.ofNat (n : Nat) = v) (K : nv_E G d M nx ls (.long v :: st) σ r) : nv_E G d M pc ls st σ r := by
  obtain ⟨hi, rfl⟩ := hi
  exact fun p e R s m args below meth c n0 ad0 A Q hC hX ad H locs lsC hV hl => lv_lconst hC.1 hC.2.1 hi hv (K p e R s m args below meth c n0 ad0 A Q hC hX ad H locs lsC hV hl)
theorem nv_ldc {ix : Nat} {v : Int32} (hi : nv_dc M pc (.ldc ix) 2 nx) (hv : Cond.constant M.1.cls ix v ∈ nv_gt) (K : nv_E G d M nx ls (.int v :: st) σ r) : nv_E G d M pc ls st σ r := by
  obtain ⟨hi, rfl⟩ := hi
  exact fun p e R s m args below meth c n0 ad0 A Q hC hX ad H locs lsC hV hl => lv_ldc hC.1 hC.2.1 hC.2.2.2.1 (hC.2.2.2.2.1 _ hv) hi (K p e R s m args below meth c n0 ad0 A Q hC hX ad H locs lsC hV hl)
theorem nv_ldcw {ix : Nat} {v : Int32} (hi : nv_dc M pc (.ldc_w ix) 3 nx) (hv : Cond.constant M.1.cls ix v ∈ nv_gt) (K : nv_E G d M nx ls (.int v :: st) σ r) : nv_E G d M pc ls st σ r := by
  obtain ⟨hi, rfl⟩ := hi
  exact fun p e R s m args below meth c n0 ad0 A Q hC hX ad H locs lsC hV hl => lv_ldcw hC.1 hC.2.1 hC.2.2.2.1 (hC.2.2.2.2.1 _ hv) hi (K p e R s m args below meth c n0 ad0 A Q hC hX ad H locs lsC hV hl)
theorem nv_ldc2 {ix : Nat} {v : Int64} (hi : nv_dc M pc (.ldc2_w ix) 3 nx) (hv : Cond.constantLong M.1.cls ix v ∈ nv_gt) (K : nv_E G d M nx ls (.long v :: st) σ r) : nv_E G d M pc ls st σ r := by
  obtain ⟨hi, rfl⟩ := hi
  exact fun p e R s m args below meth c n0 ad0 A Q hC hX ad H locs lsC hV hl => lv_ldc2 hC.1 hC.2.1 hC.2.2.2.1 (hC.2.2.2.2.1 _ hv) hi (K p e R s m args below meth c n0 ad0 A Q hC hX ad H locs lsC hV hl)
theorem nv_iload {i : Nat} {x : Int32} (hi : nv_dc M pc (.iload i) 2 nx) (hv : ls[i]? = some (some (.int x))) (K : nv_E G d M nx ls (.int x :: st) σ r) : nv_E G d M pc ls st σ r := by
  obtain ⟨hi, rfl⟩ := hi
  exact fun p e R s m args below meth c n0 ad0 A Q hC hX ad H locs lsC hV hl => lv_iload hC.1 hC.2.1 hi (nv_lget hl hv) (K p e R s m args below meth c n0 ad0 A Q hC hX ad H locs lsC hV hl)
theorem nv_iloadn {i : Fin 4} {x : Int32} (hi : nv_dc M pc (.iload_n i) 1 nx) (hv : ls[(i : Nat)]? = some (some (.int x))) (K : nv_E G d M nx ls (.int x :: st) σ r) : nv_E G d M pc ls st σ r := by
  obtain ⟨hi, rfl⟩ := hi
  exact fun p e R s m args below meth c n0 ad0 A Q hC hX ad H locs lsC hV hl => lv_iload_n hC.1 hC.2.1 hi rfl (nv_lget hl hv) (K p e R s m args below meth c n0 ad0 A Q hC hX ad H locs lsC hV hl)
theorem nv_lload {i : Nat} {x : Int64} (hi : nv_dc M pc (.lload i) 2 nx) (hv : ls[i]? = some (some (.long x))) (K : nv_E G d M nx ls (.long x :: st) σ r) : nv_E G d M pc ls st σ r := by
  obtain ⟨hi, rfl⟩ := hi
  exact fun p e R s m args below meth c n0 ad0 A Q hC hX ad H locs lsC hV hl => lv_lload hC.1 hC.2.1 hi (nv_lget hl hv) (K p e R s m args below meth c n0 ad0 A Q hC hX ad H locs lsC hV hl)
theorem nv_lloadn {i : Fin 4} {x : Int64} (hi : nv_dc M pc (.lload_n i) 1 nx) (hv : ls[(i : Nat)]? = some (some (.long x))) (K : nv_E G d M nx ls (.long x :: st) σ r) : nv_E G d M pc ls st σ r := by
  obtain ⟨hi, rfl⟩ := hi
  exact fun p e R s m args below meth c n0 ad0 A Q hC hX ad H locs lsC hV hl => lv_lload_n hC.1 hC.2.1 hi rfl (nv_lget hl hv) (K p e R s m args below meth c n0 ad0 A Q hC hX ad H locs lsC hV hl)
theorem nv_aload {i : Nat} {x : Nat} (hi : nv_dc M pc (.aload i) 2 nx) (hv : ls[i]? = some (some (.ref x))) (K : nv_E G d M nx ls (.ref x :: st) σ r) : nv_E G d M pc ls st σ r := by
  obtain ⟨hi, rfl⟩ := hi
  exact fun p e R s m args below meth c n0 ad0 A Q hC hX ad H locs lsC hV hl => lv_aload hC.1 hC.2.1 hi (nv_lget hl hv) (K p e R s m args below meth c n0 ad0 A Q hC hX ad H locs lsC hV hl)
theorem nv_aloadn {i : Fin 4} {x : Nat} (hi : nv_dc M pc (.aload_n i) 1 nx) (hv : ls[(i : Nat)]? = some (some (.ref x))) (K : nv_E G d M nx ls (.ref x :: st) σ r) : nv_E G d M pc ls st σ r := by
  obtain ⟨hi, rfl⟩ := hi
  exact fun p e R s m args below meth c n0 ad0 A Q hC hX ad H locs lsC hV hl => lv_aload_n hC.1 hC.2.1 hi rfl (nv_lget hl hv) (K p e R s m args below meth c n0 ad0 A Q hC hX ad H locs lsC hV hl)
theorem nv_istore {i : Nat} {x : Int32} (hi : nv_dc M pc (.istore i) 2 nx) (hn : i < M.2.2.1) (hnl : nv_nl ls i = true) (K : nv_E G d M nx (ls.set i (some (.int x))) st σ r) : nv_E G d M pc ls (.int x :: st) σ r := by
  obtain ⟨hi, rfl⟩ := hi
  exact fun p e R s m args below meth c n0 ad0 A Q hC hX ad H locs lsC hV hl => lv_istore hC.1 hC.2.1 hi hl hn rfl (fun lsC hl => K p e R s m args below meth c n0 ad0 A Q hC hX ad H locs lsC hV (nv_ll_set1 hnl hl))
theorem nv_istoren {i : Fin 4} {x : Int32} (hi : nv_dc M pc (.istore_n i) 1 nx) (hn : (i : Nat) < M.2.2.1) (hnl : nv_nl ls i = true) (K : nv_E G d M nx (ls.set i (some (.int x))) st σ r) : nv_E G d M pc ls (.int x :: st) σ r := by
  obtain ⟨hi, rfl⟩ := hi
  exact fun p e R s m args below meth c n0 ad0 A Q hC hX ad H locs lsC hV hl => lv_istore_n hC.1 hC.2.1 hi rfl hl hn rfl (fun lsC hl => K p e R s m args below meth c n0 ad0 A Q hC hX ad H locs lsC hV (nv_ll_set1 hnl hl))
theorem nv_astore {i : Nat} {x : Nat} (hi : nv_dc M pc (.astore i) 2 nx) (hn : i < M.2.2.1) (hnl : nv_nl ls i = true) (K : nv_E G d M nx (ls.set i (some (.ref x))) st σ r) : nv_E G d M pc ls (.ref x :: st) σ r := by
  obtain ⟨hi, rfl⟩ := hi
  exact fun p e R s m args below meth c n0 ad0 A Q hC hX ad H locs lsC hV hl => lv_astore hC.1 hC.2.1 hi hl hn rfl (fun lsC hl => K p e R s m args below meth c n0 ad0 A Q hC hX ad H locs lsC hV (nv_ll_set1 hnl hl))
theorem nv_astoren {i : Fin 4} {x : Nat} (hi : nv_dc M pc (.astore_n i) 1 nx) (hn : (i : Nat) < M.2.2.1) (hnl : nv_nl ls i = true) (K : nv_E G d M nx (ls.set i (some (.ref x))) st σ r) : nv_E G d M pc ls (.ref x :: st) σ r := by
  obtain ⟨hi, rfl⟩ := hi
  exact fun p e R s m args below meth c n0 ad0 A Q hC hX ad H locs lsC hV hl => lv_astore_n hC.1 hC.2.1 hi rfl hl hn rfl (fun lsC hl => K p e R s m args below meth c n0 ad0 A Q hC hX ad H locs lsC hV (nv_ll_set1 hnl hl))
theorem nv_lstore {i : Nat} {x : Int64} (hi : nv_dc M pc (.lstore i) 2 nx) (hn : i + 1 < M.2.2.1) (hnl : nv_nl ls i = true) (K : nv_E G d M nx ((ls.set i (some (.long x))).set (i + 1) none) st σ r) : nv_E G d M pc ls (.long x :: st) σ r := by
  obtain ⟨hi, rfl⟩ := hi
  exact fun p e R s m args below meth c n0 ad0 A Q hC hX ad H locs lsC hV hl => lv_lstore hC.1 hC.2.1 hi hl hn rfl (fun lsC hl => K p e R s m args below meth c n0 ad0 A Q hC hX ad H locs lsC hV (nv_ll_set2 hnl hl))
theorem nv_lstoren {i : Fin 4} {x : Int64} (hi : nv_dc M pc (.lstore_n i) 1 nx) (hn : (i : Nat) + 1 < M.2.2.1) (hnl : nv_nl ls i = true) (K : nv_E G d M nx ((ls.set i (some (.long x))).set ((i : Nat) + 1) none) st σ r) : nv_E G d M pc ls (.long x :: st) σ r := by
  obtain ⟨hi, rfl⟩ := hi
  exact fun p e R s m args below meth c n0 ad0 A Q hC hX ad H locs lsC hV hl => lv_lstore_n hC.1 hC.2.1 hi rfl hl hn rfl (fun lsC hl => K p e R s m args below meth c n0 ad0 A Q hC hX ad H locs lsC hV (nv_ll_set2 hnl hl))
theorem nv_iinc {i : Nat} {n : Int} {x v : Int32} (hi : nv_dc M pc (.iinc i n) 3 nx) (hv : ls[i]? = some (some (.int x))) (he : x + Int32.ofInt n = v) (hn : i < M.2.2.1) (hnl : nv_nl ls i = true) (K : nv_E G d M nx (ls.set i (some (.int v))) st σ r) : nv_E G d M pc ls st σ r := by
  obtain ⟨hi, rfl⟩ := hi
  intro p e R s m args below meth c n0 ad0 A Q hC hX ad H locs lsC hV hl
  obtain ⟨k, hk⟩ := List.getElem?_of_mem ((nv_ll_mem ad ls 0 (i, .int x)).mpr ⟨i, .int x, by simp [nv_cV], hv⟩)
  exact lv_iinc hC.1 hC.2.1 hi hl hk he hn rfl (fun lsC hl => K p e R s m args below meth c n0 ad0 A Q hC hX ad H locs lsC hV (nv_ll_set1 (v := .int v) hnl hl))
theorem nv_iadd {x y : Int32} (hi : nv_dc M pc .iadd 1 nx) (K : nv_E G d M nx ls (.int (x + y) :: st) σ r) : nv_E G d M pc ls (.int y :: .int x :: st) σ r := by
  obtain ⟨hi, rfl⟩ := hi
  exact fun p e R s m args below meth c n0 ad0 A Q hC hX ad H locs lsC hV hl => lv_iadd hC.1 hC.2.1 hi (K p e R s m args below meth c n0 ad0 A Q hC hX ad H locs lsC hV hl)
theorem nv_isub {x y : Int32} (hi : nv_dc M pc .isub 1 nx) (K : nv_E G d M nx ls (.int (x - y) :: st) σ r) : nv_E G d M pc ls (.int y :: .int x :: st) σ r := by
  obtain ⟨hi, rfl⟩ := hi
  exact fun p e R s m args below meth c n0 ad0 A Q hC hX ad H locs lsC hV hl => lv_isub hC.1 hC.2.1 hi (K p e R s m args below meth c n0 ad0 A Q hC hX ad H locs lsC hV hl)
theorem nv_imul {x y : Int32} (hi : nv_dc M pc .imul 1 nx) (K : nv_E G d M nx ls (.int (x * y) :: st) σ r) : nv_E G d M pc ls (.int y :: .int x :: st) σ r := by
  obtain ⟨hi, rfl⟩ := hi
  exact fun p e R s m args below meth c n0 ad0 A Q hC hX ad H locs lsC hV hl => lv_imul hC.1 hC.2.1 hi (K p e R s m args below meth c n0 ad0 A Q hC hX ad H locs lsC hV hl)
theorem nv_iand {x y : Int32} (hi : nv_dc M pc .iand 1 nx) (K : nv_E G d M nx ls (.int (x &&& y) :: st) σ r) : nv_E G d M pc ls (.int y :: .int x :: st) σ r := by
  obtain ⟨hi, rfl⟩ := hi
  exact fun p e R s m args below meth c n0 ad0 A Q hC hX ad H locs lsC hV hl => lv_iand hC.1 hC.2.1 hi (K p e R s m args below meth c n0 ad0 A Q hC hX ad H locs lsC hV hl)
theorem nv_ior {x y : Int32} (hi : nv_dc M pc .ior 1 nx) (K : nv_E G d M nx ls (.int (x ||| y) :: st) σ r) : nv_E G d M pc ls (.int y :: .int x :: st) σ r := by
  obtain ⟨hi, rfl⟩ := hi
  exact fun p e R s m args below meth c n0 ad0 A Q hC hX ad H locs lsC hV hl => lv_ior hC.1 hC.2.1 hi (K p e R s m args below meth c n0 ad0 A Q hC hX ad H locs lsC hV hl)
theorem nv_ixor {x y : Int32} (hi : nv_dc M pc .ixor 1 nx) (K : nv_E G d M nx ls (.int (x ^^^ y) :: st) σ r) : nv_E G d M pc ls (.int y :: .int x :: st) σ r := by
  obtain ⟨hi, rfl⟩ := hi
  exact fun p e R s m args below meth c n0 ad0 A Q hC hX ad H locs lsC hV hl => lv_ixor hC.1 hC.2.1 hi (K p e R s m args below meth c n0 ad0 A Q hC hX ad H locs lsC hV hl)
theorem nv_ishl {x y : Int32} (hi : nv_dc M pc .ishl 1 nx) (K : nv_E G d M nx ls (.int (x <<< (y &&& 31)) :: st) σ r) : nv_E G d M pc ls (.int y :: .int x :: st) σ r := by
  obtain ⟨hi, rfl⟩ := hi
  exact fun p e R s m args below meth c n0 ad0 A Q hC hX ad H locs lsC hV hl => lv_ishl hC.1 hC.2.1 hi (K p e R s m args below meth c n0 ad0 A Q hC hX ad H locs lsC hV hl)
theorem nv_ishr {x y : Int32} (hi : nv_dc M pc .ishr 1 nx) (K : nv_E G d M nx ls (.int (x >>> (y &&& 31)) :: st) σ r) : nv_E G d M pc ls (.int y :: .int x :: st) σ r := by
  obtain ⟨hi, rfl⟩ := hi
  exact fun p e R s m args below meth c n0 ad0 A Q hC hX ad H locs lsC hV hl => lv_ishr hC.1 hC.2.1 hi (K p e R s m args below meth c n0 ad0 A Q hC hX ad H locs lsC hV hl)
theorem nv_iushr {x y : Int32} (hi : nv_dc M pc .iushr 1 nx) (K : nv_E G d M nx ls (.int ((x.toUInt32 >>> (y.toUInt32 &&& Int32.toUInt32 31)).toInt32) :: st) σ r) : nv_E G d M pc ls (.int y :: .int x :: st) σ r := by
  obtain ⟨hi, rfl⟩ := hi
  exact fun p e R s m args below meth c n0 ad0 A Q hC hX ad H locs lsC hV hl => lv_iushr hC.1 hC.2.1 hi rfl (K p e R s m args below meth c n0 ad0 A Q hC hX ad H locs lsC hV hl)
theorem nv_idiv {x y : Int32} (hi : nv_dc M pc .idiv 1 nx) (hne : ¬ y = 0) (K : nv_E G d M nx ls (.int (x / y) :: st) σ r) : nv_E G d M pc ls (.int y :: .int x :: st) σ r := by
  obtain ⟨hi, rfl⟩ := hi
  exact fun p e R s m args below meth c n0 ad0 A Q hC hX ad H locs lsC hV hl => lv_idiv hC.1 hC.2.1 hi hne (K p e R s m args below meth c n0 ad0 A Q hC hX ad H locs lsC hV hl)
theorem nv_ladd {x y : Int64} (hi : nv_dc M pc .ladd 1 nx) (K : nv_E G d M nx ls (.long (x + y) :: st) σ r) : nv_E G d M pc ls (.long y :: .long x :: st) σ r := by
  obtain ⟨hi, rfl⟩ := hi
  exact fun p e R s m args below meth c n0 ad0 A Q hC hX ad H locs lsC hV hl => lv_ladd hC.1 hC.2.1 hi (K p e R s m args below meth c n0 ad0 A Q hC hX ad H locs lsC hV hl)
theorem nv_lmul {x y : Int64} (hi : nv_dc M pc .lmul 1 nx) (K : nv_E G d M nx ls (.long (x * y) :: st) σ r) : nv_E G d M pc ls (.long y :: .long x :: st) σ r := by
  obtain ⟨hi, rfl⟩ := hi
  exact fun p e R s m args below meth c n0 ad0 A Q hC hX ad H locs lsC hV hl => lv_lmul hC.1 hC.2.1 hi (K p e R s m args below meth c n0 ad0 A Q hC hX ad H locs lsC hV hl)
theorem nv_lcmp {x y : Int64} (hi : nv_dc M pc .lcmp 1 nx) (K : nv_E G d M nx ls (.int (lg_cmp x y) :: st) σ r) : nv_E G d M pc ls (.long y :: .long x :: st) σ r := by
  obtain ⟨hi, rfl⟩ := hi
  exact fun p e R s m args below meth c n0 ad0 A Q hC hX ad H locs lsC hV hl => W.lcmp hC.1 hC.2.1 hi (K p e R s m args below meth c n0 ad0 A Q hC hX ad H locs lsC hV hl)
theorem nv_i2l {x : Int32} (hi : nv_dc M pc .i2l 1 nx) (K : nv_E G d M nx ls (.long x.toInt64 :: st) σ r) : nv_E G d M pc ls (.int x :: st) σ r := by
  obtain ⟨hi, rfl⟩ := hi
  exact fun p e R s m args below meth c n0 ad0 A Q hC hX ad H locs lsC hV hl => lv_i2l hC.1 hC.2.1 hi rfl (K p e R s m args below meth c n0 ad0 A Q hC hX ad H locs lsC hV hl)
theorem nv_i2b {x : Int32} (hi : nv_dc M pc .i2b 1 nx) (K : nv_E G d M nx ls (.int x.toInt8.toInt32 :: st) σ r) : nv_E G d M pc ls (.int x :: st) σ r := by
  obtain ⟨hi, rfl⟩ := hi
  exact fun p e R s m args below meth c n0 ad0 A Q hC hX ad H locs lsC hV hl => lv_i2b hC.1 hC.2.1 hi rfl (K p e R s m args below meth c n0 ad0 A Q hC hX ad H locs lsC hV hl)
theorem nv_i2s {x : Int32} (hi : nv_dc M pc .i2s 1 nx) (K : nv_E G d M nx ls (.int x.toInt16.toInt32 :: st) σ r) : nv_E G d M pc ls (.int x :: st) σ r := by
  obtain ⟨hi, rfl⟩ := hi
  exact fun p e R s m args below meth c n0 ad0 A Q hC hX ad H locs lsC hV hl => lv_i2s hC.1 hC.2.1 hi rfl (K p e R s m args below meth c n0 ad0 A Q hC hX ad H locs lsC hV hl)
theorem nv_dup {v : Value} (hi : nv_dc M pc .dup 1 nx) (hv : v.category = 1) (K : nv_E G d M nx ls (v :: v :: st) σ r) : nv_E G d M pc ls (v :: st) σ r := by
  obtain ⟨hi, rfl⟩ := hi
  exact fun p e R s m args below meth c n0 ad0 A Q hC hX ad H locs lsC hV hl => lv_dup hC.1 hC.2.1 hi (by rw [nv_cV_cat]; exact hv) (K p e R s m args below meth c n0 ad0 A Q hC hX ad H locs lsC hV hl)
theorem nv_dup2 {v w : Value} (hi : nv_dc M pc .dup2 1 nx) (hv : v.category = 1) (hw : w.category = 1) (K : nv_E G d M nx ls (v :: w :: v :: w :: st) σ r) : nv_E G d M pc ls (v :: w :: st) σ r := by
  obtain ⟨hi, rfl⟩ := hi
  exact fun p e R s m args below meth c n0 ad0 A Q hC hX ad H locs lsC hV hl => lv_dup2_11 hC.1 hC.2.1 hi (by rw [nv_cV_cat]; exact hv) (by rw [nv_cV_cat]; exact hw) (K p e R s m args below meth c n0 ad0 A Q hC hX ad H locs lsC hV hl)
theorem nv_pop {v : Value} (hi : nv_dc M pc .pop 1 nx) (hv : v.category = 1) (K : nv_E G d M nx ls st σ r) : nv_E G d M pc ls (v :: st) σ r := by
  obtain ⟨hi, rfl⟩ := hi
  exact fun p e R s m args below meth c n0 ad0 A Q hC hX ad H locs lsC hV hl => lv_pop hC.1 hC.2.1 hi (by rw [nv_cV_cat]; exact hv) (K p e R s m args below meth c n0 ad0 A Q hC hX ad H locs lsC hV hl)
theorem nv_ifeq {x : Int32} (hi : nv_dif M pc .eq tgt nx) (K1 : x = 0 → nv_E G d M tgt ls st σ r) (K2 : ¬ x = 0 → nv_E G d M nx ls st σ r) : nv_E G d M pc ls (.int x :: st) σ r := by
  obtain ⟨off, hi, ht, rfl⟩ := hi
  exact fun p e R s m args below meth c n0 ad0 A Q hC hX ad H locs lsC hV hl => lv_if_eq hC.1 hC.2.1 hi ht (fun h => K1 h p e R s m args below meth c n0 ad0 A Q hC hX ad H locs lsC hV hl) (fun h => K2 h p e R s m args below meth c n0 ad0 A Q hC hX ad H locs lsC hV hl)
theorem nv_iflt {x : Int32} (hi : nv_dif M pc .lt tgt nx) (K1 : x < 0 → nv_E G d M tgt ls st σ r) (K2 : ¬ x < 0 → nv_E G d M nx ls st σ r) : nv_E G d M pc ls (.int x :: st) σ r := by
  obtain ⟨off, hi, ht, rfl⟩ := hi
  exact fun p e R s m args below meth c n0 ad0 A Q hC hX ad H locs lsC hV hl => lv_if_lt hC.1 hC.2.1 hi ht (fun h => K1 h p e R s m args below meth c n0 ad0 A Q hC hX ad H locs lsC hV hl) (fun h => K2 h p e R s m args below meth c n0 ad0 A Q hC hX ad H locs lsC hV hl)
theorem nv_ifge {x : Int32} (hi : nv_dif M pc .ge tgt nx) (K1 : 0 ≤ x → nv_E G d M tgt ls st σ r) (K2 : ¬ 0 ≤ x → nv_E G d M nx ls st σ r) : nv_E G d M pc ls (.int x :: st) σ r := by
  obtain ⟨off, hi, ht, rfl⟩ := hi
  exact fun p e R s m args below meth c n0 ad0 A Q hC hX ad H locs lsC hV hl => lv_if_ge hC.1 hC.2.1 hi ht (fun h => K1 h p e R s m args below meth c n0 ad0 A Q hC hX ad H locs lsC hV hl) (fun h => K2 h p e R s m args below meth c n0 ad0 A Q hC hX ad H locs lsC hV hl)
theorem nv_ifgt {x : Int32} (hi : nv_dif M pc .gt tgt nx) (K1 : 0 < x → nv_E G d M tgt ls st σ r) (K2 : ¬ 0 < x → nv_E G d M nx ls st σ r) : nv_E G d M pc ls (.int x :: st) σ r := by
  obtain ⟨off, hi, ht, rfl⟩ := hi
  exact fun p e R s m args below meth c n0 ad0 A Q hC hX ad H locs lsC hV hl => lv_if_gt hC.1 hC.2.1 hi ht (fun h => K1 h p e R s m args below meth c n0 ad0 A Q hC hX ad H locs lsC hV hl) (fun h => K2 h p e R s m args below meth c n0 ad0 A Q hC hX ad H locs lsC hV hl)
theorem nv_ifle {x : Int32} (hi : nv_dif M pc .le tgt nx) (K1 : x ≤ 0 → nv_E G d M tgt ls st σ r) (K2 : ¬ x ≤ 0 → nv_E G d M nx ls st σ r) : nv_E G d M pc ls (.int x :: st) σ r := by
  obtain ⟨off, hi, ht, rfl⟩ := hi
  exact fun p e R s m args below meth c n0 ad0 A Q hC hX ad H locs lsC hV hl => lv_if_le hC.1 hC.2.1 hi ht (fun h => K1 h p e R s m args below meth c n0 ad0 A Q hC hX ad H locs lsC hV hl) (fun h => K2 h p e R s m args below meth c n0 ad0 A Q hC hX ad H locs lsC hV hl)
theorem nv_ifne {x : Int32} (hi : nv_dif M pc .ne tgt nx) (K1 : x = 0 → nv_E G d M nx ls st σ r) (K2 : ¬ x = 0 → nv_E G d M tgt ls st σ r) : nv_E G d M pc ls (.int x :: st) σ r := by
  obtain ⟨off, hi, ht, rfl⟩ := hi
  exact fun p e R s m args below meth c n0 ad0 A Q hC hX ad H locs lsC hV hl => lv_if_ne hC.1 hC.2.1 hi ht (fun h => K2 h p e R s m args below meth c n0 ad0 A Q hC hX ad H locs lsC hV hl) (fun h => K1 h p e R s m args below meth c n0 ad0 A Q hC hX ad H locs lsC hV hl)
theorem nv_iceq {x y : Int32} (hi : nv_dic M pc .eq tgt nx) (K1 : x = y → nv_E G d M tgt ls st σ r) (K2 : ¬ x = y → nv_E G d M nx ls st σ r) : nv_E G d M pc ls (.int y :: .int x :: st) σ r := by
  obtain ⟨off, hi, ht, rfl⟩ := hi
  exact fun p e R s m args below meth c n0 ad0 A Q hC hX ad H locs lsC hV hl => lv_icmp_eq hC.1 hC.2.1 hi ht (fun h => K1 h p e R s m args below meth c n0 ad0 A Q hC hX ad H locs lsC hV hl) (fun h => K2 h p e R s m args below meth c n0 ad0 A Q hC hX ad H locs lsC hV hl)
theorem nv_iclt {x y : Int32} (hi : nv_dic M pc .lt tgt nx) (K1 : x < y → nv_E G d M tgt ls st σ r) (K2 : ¬ x < y → nv_E G d M nx ls st σ r) : nv_E G d M pc ls (.int y :: .int x :: st) σ r := by
  obtain ⟨off, hi, ht, rfl⟩ := hi
  exact fun p e R s m args below meth c n0 ad0 A Q hC hX ad H locs lsC hV hl => lv_icmp_lt hC.1 hC.2.1 hi ht (fun h => K1 h p e R s m args below meth c n0 ad0 A Q hC hX ad H locs lsC hV hl) (fun h => K2 h p e R s m args below meth c n0 ad0 A Q hC hX ad H locs lsC hV hl)
theorem nv_icge {x y : Int32} (hi : nv_dic M pc .ge tgt nx) (K1 : y ≤ x → nv_E G d M tgt ls st σ r) (K2 : ¬ y ≤ x → nv_E G d M nx ls st σ r) : nv_E G d M pc ls (.int y :: .int x :: st) σ r := by
  obtain ⟨off, hi, ht, rfl⟩ := hi
  exact fun p e R s m args below meth c n0 ad0 A Q hC hX ad H locs lsC hV hl => lv_icmp_ge hC.1 hC.2.1 hi ht (fun h => K1 h p e R s m args below meth c n0 ad0 A Q hC hX ad H locs lsC hV hl) (fun h => K2 h p e R s m args below meth c n0 ad0 A Q hC hX ad H locs lsC hV hl)
theorem nv_icgt {x y : Int32} (hi : nv_dic M pc .gt tgt nx) (K1 : y < x → nv_E G d M tgt ls st σ r) (K2 : ¬ y < x → nv_E G d M nx ls st σ r) : nv_E G d M pc ls (.int y :: .int x :: st) σ r := by
  obtain ⟨off, hi, ht, rfl⟩ := hi
  exact fun p e R s m args below meth c n0 ad0 A Q hC hX ad H locs lsC hV hl => lv_icmp_gt hC.1 hC.2.1 hi ht (fun h => K1 h p e R s m args below meth c n0 ad0 A Q hC hX ad H locs lsC hV hl) (fun h => K2 h p e R s m args below meth c n0 ad0 A Q hC hX ad H locs lsC hV hl)
theorem nv_icle {x y : Int32} (hi : nv_dic M pc .le tgt nx) (K1 : x ≤ y → nv_E G d M tgt ls st σ r) (K2 : ¬ x ≤ y → nv_E G d M nx ls st σ r) : nv_E G d M pc ls (.int y :: .int x :: st) σ r := by
  obtain ⟨off, hi, ht, rfl⟩ := hi
  exact fun p e R s m args below meth c n0 ad0 A Q hC hX ad H locs lsC hV hl => lv_icmp_le hC.1 hC.2.1 hi ht (fun h => K1 h p e R s m args below meth c n0 ad0 A Q hC hX ad H locs lsC hV hl) (fun h => K2 h p e R s m args below meth c n0 ad0 A Q hC hX ad H locs lsC hV hl)
theorem nv_icne {x y : Int32} (hi : nv_dic M pc .ne tgt nx) (K1 : x = y → nv_E G d M nx ls st σ r) (K2 : ¬ x = y → nv_E G d M tgt ls st σ r) : nv_E G d M pc ls (.int y :: .int x :: st) σ r := by
  obtain ⟨off, hi, ht, rfl⟩ := hi
  exact fun p e R s m args below meth c n0 ad0 A Q hC hX ad H locs lsC hV hl => lv_icmp_ne hC.1 hC.2.1 hi ht (fun h => K2 h p e R s m args below meth c n0 ad0 A Q hC hX ad H locs lsC hV hl) (fun h => K1 h p e R s m args below meth c n0 ad0 A Q hC hX ad H locs lsC hV hl)
theorem nv_goto (hi : nv_dgo M pc tgt) (K : nv_E G d M tgt ls st σ r) : nv_E G d M pc ls st σ r := by
  obtain ⟨off, hi, ht⟩ := hi
  exact fun p e R s m args below meth c n0 ad0 A Q hC hX ad H locs lsC hV hl => lv_goto hC.1 hC.2.1 hi ht (K p e R s m args below meth c n0 ad0 A Q hC hX ad H locs lsC hV hl)
def nv_dsw (M : nv_MI) (pc : Nat) (x : Int32) (tgt : Nat) : Prop :=
  (∃ (dflt lo hi : Int) (offs : Array Int) (len : Nat), decode M.2.1 pc = .ok (.tableswitch dflt lo hi offs, len) ∧ ((∃ off : Int, ¬ x.toInt < lo ∧ ¬ hi < x.toInt ∧ offs[(x.toInt - lo).toNat]? = some off ∧ (pc : Int) + off = (tgt : Int)) ∨ ((x.toInt < lo ∨ hi < x.toInt) ∧ (pc : Int) + dflt = (tgt : Int)))) ∨
  (∃ (dflt : Int) (ps : Array (Int × Int)) (len : Nat) (off : Int), decode M.2.1 pc = .ok (.lookupswitch dflt ps, len) ∧ (ps.toList.zip (ps.toList.drop 1)).all (fun (a, next) => a.1 < next.1) = true ∧ Op.lookupswitch.offset ps.toList dflt x.toInt = off ∧ (pc : Int) + off = (tgt : Int))
theorem nv_switch {x : Int32} (hi : nv_dsw M pc x tgt) (K : nv_E G d M tgt ls st σ r) : nv_E G d M pc ls (.int x :: st) σ r := by
  intro p e R s m args below meth c n0 ad0 A Q hC hX ad H locs lsC hV hl
  rcases hi with ⟨dflt, lo, hi, offs, len, h1, ⟨off, h2, h3, h4, h5⟩ | ⟨h2, h3⟩⟩ | ⟨dflt, ps, len, off, h1, h2, h3, h4⟩
  · exact lv_tableIn hC.1 hC.2.1 h1 h2 h3 h4 h5 (K p e R s m args below meth c n0 ad0 A Q hC hX ad H locs lsC hV hl)
  · exact lv_tableOut hC.1 hC.2.1 h1 h2 h3 (K p e R s m args below meth c n0 ad0 A Q hC hX ad H locs lsC hV hl)
  · exact lv_lookup hC.1 hC.2.1 h1 h2 h3 h4 (K p e R s m args below meth c n0 ad0 A Q hC hX ad H locs lsC hV hl)
theorem nv_ireturn {v : Int32} {ty : FieldType} (hi : decode M.2.1 pc = .ok (.ireturn, 1)) (ht : M.2.2.2 = some ty) (hn : narrow ty (.int v) = .int v) : nv_E G d M pc ls [.int v] σ (some (.int v), σ) :=
  fun p e R s m args below meth c n0 ad0 A Q hC hX ad H locs lsC hV hl => hX ad H locs lsC pc hV ⟨hi, ty, ht, hn⟩
theorem nv_lreturn {v : Int64} (hi : decode M.2.1 pc = .ok (.lreturn, 1)) (ht : M.2.2.2 = some .long) : nv_E G d M pc ls [.long v] σ (some (.long v), σ) :=
  fun p e R s m args below meth c n0 ad0 A Q hC hX ad H locs lsC hV hl => hX ad H locs lsC pc hV ⟨hi, ht⟩
theorem nv_return (hi : decode M.2.1 pc = .ok (.return_, 1)) (ht : M.2.2.2 = none) : nv_E G d M pc ls [] σ (none, σ) :=
  fun p e R s m args below meth c n0 ad0 A Q hC hX ad H locs lsC hV hl => hX ad H locs lsC pc hV ⟨hi, ht⟩
end
