/-! ===== rules that read and write cells ===== -/
/-- a field by its link: class number ci, field j -/
def nv_Fl (own : String) (ix ci j : Nat) : Prop := ∃ (C : String) (T : u_T) (N : Nat) (ty0 : Nat → FieldType), nv_cls[ci]? = some (C, T, N) ∧ j < N ∧ Cond.fieldLink own ix C (T j).2.1 (T j).2.2.1 ∈ nv_gt ∧ (T j).1 = C ∧ (∀ w ∈ u_ws C T N, w ∈ nv_gt) ∧
  (∀ k, k < N → parseFieldDescriptor (T k).2.2.1 = some (ty0 k)) ∧ (∀ a, a < N → ∀ b, b < N → a ≠ b → (T a).2.1 ≠ (T b).2.1)
/-- a field that may be put: not final, of type ty -/
def nv_Fp (own : String) (ix ci j : Nat) (ty : FieldType) : Prop := ∃ (C : String) (T : u_T) (N : Nat) (ty0 : Nat → FieldType), nv_cls[ci]? = some (C, T, N) ∧ j < N ∧ Cond.fieldLink own ix C (T j).2.1 (T j).2.2.1 ∈ nv_gt ∧ (T j).1 = C ∧ (∀ w ∈ u_ws C T N, w ∈ nv_gt) ∧
  (∀ k, k < N → parseFieldDescriptor (T k).2.2.1 = some (ty0 k)) ∧ (∀ a, a < N → ∀ b, b < N → a ≠ b → (T a).2.1 ≠ (T b).2.1) ∧ (T j).2.2.2 = false ∧ parseFieldDescriptor (T j).2.2.1 = some ty
/-- a final field, put in the constructor of its own class -/
def nv_Ff (own : String) (ix ci j : Nat) (ty : FieldType) : Prop := ∃ (C : String) (T : u_T) (N : Nat) (ty0 : Nat → FieldType), nv_cls[ci]? = some (C, T, N) ∧ j < N ∧ Cond.fieldLink own ix C (T j).2.1 (T j).2.2.1 ∈ nv_gt ∧ (T j).1 = C ∧ (∀ w ∈ u_ws C T N, w ∈ nv_gt) ∧
  (∀ k, k < N → parseFieldDescriptor (T k).2.2.1 = some (ty0 k)) ∧ (∀ a, a < N → ∀ b, b < N → a ≠ b → (T a).2.1 ≠ (T b).2.1) ∧ (T j).2.2.2 = true ∧ parseFieldDescriptor (T j).2.2.1 = some ty ∧ C = own
def nv_inb (i : Int32) (n : Nat) : Bool := decide (¬ i < 0) && decide (i.toNatClampNeg < n)
theorem nv_inb_vp {i : Int32} {n : Nat} (h : nv_inb i n = true) : vp_in i n := by
  unfold nv_inb at h
  simp only [Bool.and_eq_true, decide_eq_true_eq] at h
  exact fun q => q.elim h.1 (fun q => by omega)
section
variable {G : nv_G} {d : Nat} {M : nv_MI} {pc nx tgt : Nat} {ls : List (Option Value)} {st : List Value} {h : nv_Hp} {z : nv_Zp} {n : Nat} {r : nv_R}
theorem nv_V.wg {s : State} {n0 : Nat} {ad0 ad : Nat → Nat} {A : Nat → Prop} {H : Heap} {locs : List Loc} {k : Nat} (_ : nv_V G r s n0 ad0 A ad (h, z, n) H locs) (hk : k < n) {e : nv_Sh} (hs : nv_shp k = e) : (nv_w ad G.2.2.1 (h, z, n))[k]? = some (ad k, nv_ce ad G.2.2.1 h z k e) := by
  subst hs
  exact nv_w_get (σ := (h, z, n)) hk
theorem nv_V.put {s : State} {n0 : Nat} {ad0 ad : Nat → Nat} {A : Nat → Prop} {H H1 : Heap} {locs locs1 : List Loc} {k : Nat} {h' : nv_Hp} {z' : nv_Zp} {e : va_E} (hV : nv_V G r s n0 ad0 A ad (h, z, n) H locs) (hk : k < n) (he : e = nv_ce ad G.2.2.1 h' z' k (nv_shp k)) (h1 : ∀ a i, a ≠ k → h' a i = h a i) (h2 : ∀ a i, a ≠ k → z' a i = z a i)
    (hP : va_P G.2.1 nv_cls ((nv_w ad G.2.2.1 (h, z, n)).set k (ad k, e)) H1) (hD : va_D A ((nv_w ad G.2.2.1 (h, z, n)).set k (ad k, e))) (hS : va_S A s.heap H1 locs1) : nv_V G r s n0 ad0 A ad (h', z', n) H1 locs1 := by
  rw [nv_w_set hk he h1 h2] at hP hD
  exact ⟨hV.1, hV.2.1, hV.2.2.1, hP, hD, hS⟩
theorem nv_getI {ix ci j k : Nat} {fl : List (Option Nat)} (hF : nv_Fl M.1.cls ix ci j) (hi : nv_dc M pc (.getfield ix) 3 nx) (hk : k < n ∧ nv_shp k = .inr (ci, fl)) (hj : fl[j]? = some none) (K : nv_E G d M nx ls (.int (h k j) :: st) (h, z, n) r) : nv_E G d M pc ls (.ref k :: st) (h, z, n) r := by
  obtain ⟨hi, rfl⟩ := hi
  obtain ⟨C, T, N, ty0, f1, f2, f3, f4, f5, f6, f7⟩ := hF
  intro p e R s m args below meth c n0 ad0 A Q hC hX ad H locs lsC hV hl
  exact va_get (D := G.2.1) (cl := nv_cls) hC.1 hC.2.1 hC.2.2.2.2.1 f5 hC.2.2.2.1 hC.2.2.2.2.2.1 hV.2.2.2.1 k (hV.wg hk.1 hk.2) f1 j f2 (hC.2.2.2.2.1 _ f3) (fun x hx => by rw [f4] at hx; exact hx) (nv_fv_int hj) hi (K p e R s m args below meth c n0 ad0 A Q hC hX ad H locs lsC hV hl)
theorem nv_getR {ix ci j k t : Nat} {fl : List (Option Nat)} (hF : nv_Fl M.1.cls ix ci j) (hi : nv_dc M pc (.getfield ix) 3 nx) (hk : k < n ∧ nv_shp k = .inr (ci, fl)) (hj : fl[j]? = some (some t)) (hz : z k j = true) (K : nv_E G d M nx ls (.ref t :: st) (h, z, n) r) : nv_E G d M pc ls (.ref k :: st) (h, z, n) r := by
  obtain ⟨hi, rfl⟩ := hi
  obtain ⟨C, T, N, ty0, f1, f2, f3, f4, f5, f6, f7⟩ := hF
  intro p e R s m args below meth c n0 ad0 A Q hC hX ad H locs lsC hV hl
  exact va_get (D := G.2.1) (cl := nv_cls) hC.1 hC.2.1 hC.2.2.2.2.1 f5 hC.2.2.2.1 hC.2.2.2.2.2.1 hV.2.2.2.1 k (hV.wg hk.1 hk.2) f1 j f2 (hC.2.2.2.2.1 _ f3) (fun x hx => by rw [f4] at hx; exact hx) (nv_fv_ref hj hz) hi (K p e R s m args below meth c n0 ad0 A Q hC hX ad H locs lsC hV hl)
theorem nv_putI {ix ci j k : Nat} {fl : List (Option Nat)} {ty : FieldType} {x : Int32} (hF : nv_Fp M.1.cls ix ci j ty) (hi : nv_dc M pc (.putfield ix) 3 nx) (hk : k < n ∧ nv_shp k = .inr (ci, fl)) (hj : fl[j]? = some none) (hn : narrow ty (.int x) = .int x) (hfit : fits ty (.int x) = true) (K : nv_E G d M nx ls st (nv_up h k j x, z, n) r) : nv_E G d M pc ls (.int x :: .ref k :: st) (h, z, n) r := by
  obtain ⟨hi, rfl⟩ := hi
  obtain ⟨C, T, N, ty0, f1, f2, f3, f4, f5, f6, f7, f8, f9⟩ := hF
  intro p e R s m args below meth c n0 ad0 A Q hC hX ad H locs lsC hV hl
  have hjl : j < fl.length := (List.getElem?_eq_some_iff.mp hj).1
  refine va_put (D := G.2.1) (cl := nv_cls) hC.1 hC.2.1 hC.2.2.2.2.1 f5 ty0 f6 f7 hC.2.2.2.1 hC.2.2.2.2.2.1 hV.2.2.2.1 hV.2.2.2.2.1 hV.2.2.2.2.2 k (hV.wg hk.1 hk.2) f1 j f2 (hC.2.2.2.2.1 _ f3) (fun x hx => by rw [f4] at hx; exact hx) f8 f9 hn hfit (by rw [nv_fv_len]; exact hjl) hi (fun H1 locs1 hP hD hS => ?_)
  exact K p e R s m args below meth c n0 ad0 A Q hC hX ad H1 locs1 lsC (hV.put hk.1 (by rw [hk.2, nv_cV_int, nv_fv_set hj]; rfl) (fun a i ha => nv_up_k h x ha) (fun _ _ _ => rfl) hP hD hS) hl
theorem nv_putF {ix ci j k t : Nat} {fl : List (Option Nat)} {ty : FieldType} (hF : nv_Ff M.1.cls ix ci j ty) (hi : nv_dc M pc (.putfield ix) 3 nx) (hk : k < n ∧ nv_shp k = .inr (ci, fl)) (hj : fl[j]? = some (some t)) (hin : M.1.name = "<init>") (hn : ∀ a : Nat, narrow ty (.ref a) = .ref a) (hfit : ∀ a : Nat, fits ty (.ref a) = true) (K : nv_E G d M nx ls st (h, nv_uz z k j, n) r) : nv_E G d M pc ls (.ref t :: .ref k :: st) (h, z, n) r := by
  obtain ⟨hi, rfl⟩ := hi
  obtain ⟨C, T, N, ty0, f1, f2, f3, f4, f5, f6, f7, f8, f9, f10⟩ := hF
  intro p e R s m args below meth c n0 ad0 A Q hC hX ad H locs lsC hV hl
  have hjl : j < fl.length := (List.getElem?_eq_some_iff.mp hj).1
  refine va_putF (D := G.2.1) (cl := nv_cls) hC.1 hC.2.1 hC.2.2.2.2.1 f5 ty0 f6 f7 hC.2.2.2.1 hC.2.2.2.2.2.1 hV.2.2.2.1 hV.2.2.2.2.1 hV.2.2.2.2.2 k (hV.wg hk.1 hk.2) f1 j f2 (hC.2.2.2.2.1 _ f3) (fun x hx => by rw [f4] at hx; exact hx) f8 (hC.2.2.2.2.2.2.2.2.1 hin) (by rw [f4, f10]) f9 (hn _) (hfit _) (by rw [nv_fv_len]; exact hjl) hi (fun H1 locs1 hP hD hS => ?_)
  refine K p e R s m args below meth c n0 ad0 A Q hC hX ad H1 locs1 lsC (hV.put (h' := h) (z' := nv_uz z k j) hk.1 (by rw [hk.2, nv_cV_ref, nv_fv_setr hj]; rfl) (fun _ _ _ => rfl) (fun a i ha => by simp [nv_uz, ha]) hP hD hS) hl
theorem nv_iald {i : Int32} {k len : Nat} (hi : nv_dc M pc .iaload 1 nx) (hk : k < n ∧ nv_shp k = .inl (len, none)) (hin : nv_inb i len = true) (K : nv_E G d M nx ls (.int (h k i.toNatClampNeg) :: st) (h, z, n) r) : nv_E G d M pc ls (.int i :: .ref k :: st) (h, z, n) r := by
  obtain ⟨hi, rfl⟩ := hi
  intro p e R s m args below meth c n0 ad0 A Q hC hX ad H locs lsC hV hl
  exact va_iald (D := G.2.1) (cl := nv_cls) hC.1 hC.2.1 hC.2.2.2.2.2.1 hV.2.2.2.1 k 0 (hV.wg hk.1 hk.2) rfl (nv_inb_vp hin) hi (K p e R s m args below meth c n0 ad0 A Q hC hX ad H locs lsC hV hl)
theorem nv_iast {i x : Int32} {k len : Nat} (hi : nv_dc M pc .iastore 1 nx) (hk : k < n ∧ nv_shp k = .inl (len, none)) (hin : nv_inb i len = true) (K : nv_E G d M nx ls st (nv_up h k i.toNatClampNeg x, z, n) r) : nv_E G d M pc ls (.int x :: .int i :: .ref k :: st) (h, z, n) r := by
  obtain ⟨hi, rfl⟩ := hi
  intro p e R s m args below meth c n0 ad0 A Q hC hX ad H locs lsC hV hl
  refine va_iast (D := G.2.1) (cl := nv_cls) hC.1 hC.2.1 hC.2.2.2.2.2.1 hV.2.2.2.1 hV.2.2.2.2.1 hV.2.2.2.2.2 k 0 (hV.wg hk.1 hk.2) rfl (nv_inb_vp hin) hi (fun H1 locs1 hP hD hS => ?_)
  refine K p e R s m args below meth c n0 ad0 A Q hC hX ad H1 locs1 lsC (hV.put hk.1 (z' := z) (h' := nv_up h k i.toNatClampNeg x) ?_ (fun a i ha => nv_up_k h x ha) (fun _ _ _ => rfl) hP hD hS) hl
  rw [hk.2]
  show (.inl (G.2.2.1 0, len, .inl (upd (h k) i.toNatClampNeg x)) : va_E) = .inl (G.2.2.1 0, len, .inl (nv_up h k i.toNatClampNeg x k))
  congr 4
  funext b
  by_cases hb : b = i.toNatClampNeg
  · subst hb
    rw [nv_up_s]; simp [upd]
  · rw [nv_up_j h x hb]; simp [upd, hb]
theorem nv_aald {i : Int32} {k len t b w : Nat} (hi : nv_dc M pc .aaload 1 nx) (hk : k < n ∧ nv_shp k = .inl (len, some (t, b, w))) (ht : ∃ C, (nv_tys G.2.2.1)[t]? = some (G.2.2.1 t, .object C)) (hin : nv_inb i len = true) (hz : z k i.toNatClampNeg = true) (K : nv_E G d M nx ls (.ref (b + w * i.toNatClampNeg) :: st) (h, z, n) r) : nv_E G d M pc ls (.int i :: .ref k :: st) (h, z, n) r := by
  obtain ⟨hi, rfl⟩ := hi
  obtain ⟨C, ht⟩ := ht
  intro p e R s m args below meth c n0 ad0 A Q hC hX ad H locs lsC hV hl
  refine va_aldq (D := G.2.1) (cl := nv_cls) hC.1 hC.2.1 hC.2.2.2.2.2.1 hV.2.2.2.1 k t (hV.wg hk.1 hk.2) ht (nv_inb_vp hin) hi ?_
  rw [if_pos hz]
  exact K p e R s m args below meth c n0 ad0 A Q hC hX ad H locs lsC hV hl
theorem nv_alen {k len : Nat} {v : Int32} (hi : nv_dc M pc .arraylength 1 nx) (hk : k < n ∧ nv_shp k = .inl (len, none)) (hv : Int32.ofNat len = v) (K : nv_E G d M nx ls (.int v :: st) (h, z, n) r) : nv_E G d M pc ls (.ref k :: st) (h, z, n) r := by
  obtain ⟨hi, rfl⟩ := hi
  intro p e R s m args below meth c n0 ad0 A Q hC hX ad H locs lsC hV hl
  exact va_alen (D := G.2.1) (cl := nv_cls) hC.1 hC.2.1 hC.2.2.2.2.2.1 hV.2.2.2.1 k 0 (hV.wg hk.1 hk.2) rfl hv hi (K p e R s m args below meth c n0 ad0 A Q hC hX ad H locs lsC hV hl)
/-! statics and the script -/
theorem nv_gets {ix i : Nat} {ty : FieldType} {nm ds : String} {l : List Int32} (hi : nv_dc M pc (.getstatic ix) 3 nx) (hs : nv_stat i = some (ty, nm, ds, l)) (hl' : Cond.fieldLink M.1.cls ix "WhoseName" nm ds ∈ nv_gt) {σ : nv_Sg} (K : nv_E G d M nx ls (.ref (1000 + i) :: st) σ r) : nv_E G d M pc ls st σ r := by
  obtain ⟨hi, rfl⟩ := hi
  intro p e R s m args below meth c n0 ad0 A Q hC hX ad H locs lsC hV hl
  have hZ := (hC.2.2.2.2.2.2.2.1.1 i ty nm ds l hs).2
  have K' := K p e R s m args below meth c n0 ad0 A Q hC hX ad H locs lsC hV hl
  simp only [List.map_cons, nv_cV_ref, hV.2.2.1 i] at K'
  exact va_gets hC.1 hC.2.1 hZ hV.2.2.2.2.2 hC.2.2.2.1 (hC.2.2.2.2.1 _ hl') (fun x hx => hx) hi K'
theorem nv_getsN {ix i : Nat} {ty : FieldType} {nm ds host : String} {l : List Int32} (hi : nv_dc M pc (.getstatic ix) 3 nx) (hs : nv_stat i = some (ty, nm, ds, l)) (hl' : Cond.fieldLinkNest M.1.cls ix "WhoseName" nm ds host ∈ nv_nst) {σ : nv_Sg} (K : nv_E G d M nx ls (.ref (1000 + i) :: st) σ r) : nv_E G d M pc ls st σ r := by
  obtain ⟨hi, rfl⟩ := hi
  intro p e R s m args below meth c n0 ad0 A Q hC hX ad H locs lsC hV hl
  have hZ := (hC.2.2.2.2.2.2.2.1.1 i ty nm ds l hs).2
  have K' := K p e R s m args below meth c n0 ad0 A Q hC hX ad H locs lsC hV hl
  simp only [List.map_cons, nv_cV_ref, hV.2.2.1 i] at K'
  exact va_getsN hC.1 hC.2.1 hZ hV.2.2.2.2.2 hC.2.2.2.1 (va_Nw.use rfl (hC.2.2.2.2.2.2.2.1.2.2.2 _ hl')) (fun x hx => hx) hi K'
theorem nv_ialdS {i : Nat} {nm ds : String} {l : List Int32} {x : Int32} (hi : nv_dc M pc .iaload 1 nx) (hs : nv_stat i = some (.int, nm, ds, l)) (hin : nv_inb x l.length = true) {σ : nv_Sg} (K : nv_E G d M nx ls (.int (l.getD x.toNatClampNeg 0) :: st) σ r) : nv_E G d M pc ls (.int x :: .ref (1000 + i) :: st) σ r := by
  obtain ⟨hi, rfl⟩ := hi
  intro p e R s m args below meth c n0 ad0 A Q hC hX ad H locs lsC hV hl
  have hT := (hC.2.2.2.2.2.2.2.1.1 i _ nm ds l hs).1
  simp only [List.map_cons, nv_cV_ref, nv_cV_int, hV.2.2.1 i]
  exact va_ti hC.1 hC.2.1 hT hV.2.2.2.2.2 (nv_inb_vp hin) rfl hi (K p e R s m args below meth c n0 ad0 A Q hC hX ad H locs lsC hV hl)
theorem nv_caldS {i : Nat} {nm ds : String} {l : List Int32} {x : Int32} (hi : nv_dc M pc .caload 1 nx) (hs : nv_stat i = some (.char, nm, ds, l)) (hin : nv_inb x l.length = true) {σ : nv_Sg} (K : nv_E G d M nx ls (.int (l.getD x.toNatClampNeg 0) :: st) σ r) : nv_E G d M pc ls (.int x :: .ref (1000 + i) :: st) σ r := by
  obtain ⟨hi, rfl⟩ := hi
  intro p e R s m args below meth c n0 ad0 A Q hC hX ad H locs lsC hV hl
  have hT := (hC.2.2.2.2.2.2.2.1.1 i _ nm ds l hs).1
  simp only [List.map_cons, nv_cV_ref, nv_cV_int, hV.2.2.1 i]
  exact va_tc hC.1 hC.2.1 hT hV.2.2.2.2.2 (nv_inb_vp hin) rfl hi (K p e R s m args below meth c n0 ad0 A Q hC hX ad H locs lsC hV hl)
theorem nv_alenS {i : Nat} {ty : FieldType} {nm ds : String} {l : List Int32} {v : Int32} (hi : nv_dc M pc .arraylength 1 nx) (hs : nv_stat i = some (ty, nm, ds, l)) (hv : Int32.ofNat l.length = v) {σ : nv_Sg} (K : nv_E G d M nx ls (.int v :: st) σ r) : nv_E G d M pc ls (.ref (1000 + i) :: st) σ r := by
  obtain ⟨hi, rfl⟩ := hi
  intro p e R s m args below meth c n0 ad0 A Q hC hX ad H locs lsC hV hl
  have hT := (hC.2.2.2.2.2.2.2.1.1 i _ nm ds l hs).1
  simp only [List.map_cons, nv_cV_ref, hV.2.2.1 i]
  exact va_tlen hC.1 hC.2.1 hT hV.2.2.2.2.2 hv hi (K p e R s m args below meth c n0 ad0 A Q hC hX ad H locs lsC hV hl)
theorem nv_scrL {x : Int32} (hi : nv_dc M pc .iaload 1 nx) (hin : nv_inb x G.2.2.2.2.1 = true) {σ : nv_Sg} (K : nv_E G d M nx ls (.int (G.2.2.2.2.2 x.toNatClampNeg) :: st) σ r) : nv_E G d M pc ls (.int x :: .ref 1009 :: st) σ r := by
  obtain ⟨hi, rfl⟩ := hi
  intro p e R s m args below meth c n0 ad0 A Q hC hX ad H locs lsC hV hl
  obtain ⟨h1, h2, h3⟩ := hC.2.2.2.2.2.2.2.1.2.1
  simp only [List.map_cons, nv_cV_ref, nv_cV_int, hV.2.2.1 9]
  exact va_sld hC.1 hC.2.1 h1 h2 h3 hV.2.2.2.2.2 (nv_inb_vp hin) hi (K p e R s m args below meth c n0 ad0 A Q hC hX ad H locs lsC hV hl)
theorem nv_scrN (hi : nv_dc M pc .arraylength 1 nx) {σ : nv_Sg} (K : nv_E G d M nx ls (.int (Int32.ofNat G.2.2.2.2.1) :: st) σ r) : nv_E G d M pc ls (.ref 1009 :: st) σ r := by
  obtain ⟨hi, rfl⟩ := hi
  intro p e R s m args below meth c n0 ad0 A Q hC hX ad H locs lsC hV hl
  obtain ⟨h1, h2, h3⟩ := hC.2.2.2.2.2.2.2.1.2.1
  simp only [List.map_cons, nv_cV_ref, hV.2.2.1 9]
  exact va_slen hC.1 hC.2.1 h1 h2 h3 hV.2.2.2.2.2 hi (K p e R s m args below meth c n0 ad0 A Q hC hX ad H locs lsC hV hl)
/-! System.arraycopy -/
def nv_cp (f : Nat → Int32) (h : nv_Hp) (k sp dp len : Nat) : nv_Hp := fun a b => if a = k then va_cpy f (h k) sp dp len b else h a b
def nv_Lc (own : String) (ix : Nat) : Prop := Cond.methodLink own ix arraycopyName ∈ nv_gt ∧ Cond.native arraycopyName ∈ nv_gt ∧ Cond.static arraycopyName ∈ nv_gt ∧ Cond.initialized "java/lang/System" ∈ nv_gt
theorem nv_copy {ix k0 k1 n0' n1 : Nat} {sp dp len : Int32} (hi : nv_dc M pc (.invokestatic ix) 3 nx) (hL : nv_Lc M.1.cls ix) (hd : 1 ≤ d) (hk0 : k0 < n ∧ nv_shp k0 = .inl (n0', none)) (hk1 : k1 < n ∧ nv_shp k1 = .inl (n1, none))
    (h1 : ¬ sp < 0) (h2 : ¬ dp < 0) (h3 : ¬ len < 0) (h4 : sp.toNatClampNeg + len.toNatClampNeg ≤ n0') (h5 : dp.toNatClampNeg + len.toNatClampNeg ≤ n1) (hst : (st.map fun v => v.category).sum ≤ 8)
    (K : nv_E G d M nx ls st (nv_cp (h k0) h k1 sp.toNatClampNeg dp.toNatClampNeg len.toNatClampNeg, z, n) r) : nv_E G d M pc ls (.int len :: .int dp :: .ref k1 :: .int sp :: .ref k0 :: st) (h, z, n) r := by
  obtain ⟨hi, rfl⟩ := hi
  obtain ⟨l1, l2, l3, l4⟩ := hL
  intro p e R s m args below meth c n0 ad0 A Q hC hX ad H locs lsC hV hl
  have hT := hC.2.2.2.2.1
  have hr := hC.2.2.2.2.2.2.2.2.2
  have hcat : ((st.map (nv_cV ad)).map fun v => v.category).sum ≤ 8 := by
    rw [List.map_map]
    have : (Value.category ∘ nv_cV ad) = Value.category := funext fun v => nv_cV_cat ad v
    rw [show (fun v : Value => v.category) ∘ nv_cV ad = fun v => v.category from this]
    exact hst
  refine va_copyi (D := G.2.1) (cl := nv_cls) hC.1 hC.2.1 (by rw [hC.2.2.1]; exact hl.1.symm) hC.2.2.2.1 (hT _ l1) (hT _ l2) (hT _ l3) (hT _ l4) hC.2.2.2.2.2.1 hV.2.2.2.1 hV.2.2.2.2.1 hV.2.2.2.2.2 k0 k1 0 0 (hV.wg hk0.1 hk0.2) (hV.wg hk1.1 hk1.2) rfl rfl rfl h1 h2 h3 h4 h5 (fun i _ => rfl) (by omega) ?_ hi (fun H1 locs1 hP hD hS => ?_)
  · have : nativeFrameWords "java/lang/System" "arraycopy" 5 ≤ 20 := by decide +kernel
    omega
  refine K p e R s m args below meth c n0 ad0 A Q hC hX ad H1 locs1 lsC (hV.put hk1.1 (z' := z) (h' := nv_cp (h k0) h k1 sp.toNatClampNeg dp.toNatClampNeg len.toNatClampNeg) ?_ (fun a i ha => by simp [nv_cp, ha]) (fun _ _ _ => rfl) hP hD hS) hl
  rw [hk1.2]
  show (.inl (G.2.2.1 0, n1, .inl _) : va_E) = .inl (G.2.2.1 0, n1, .inl (nv_cp (h k0) h k1 sp.toNatClampNeg dp.toNatClampNeg len.toNatClampNeg k1))
  congr 4
  funext b
  simp [nv_cp]
end
