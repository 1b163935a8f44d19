/-! ===== my base: a heap of whole numbers over a fixed shape, and one judgement for a method's frame ===== -/
def nv_gt : List Cond := lw_tbl.filter goodWord
theorem nv_gt_good : GoodIn nv_gt nv_gt := fun w h => ⟨h, good_of_word (List.mem_filter.mp h).2⟩
theorem nv_gt_of {w : Cond} (i : Nat) (h : lw_tbl[i]? = some w) (hg : goodWord w = true) : w ∈ nv_gt := List.mem_filter.mpr ⟨List.mem_of_getElem? h, hg⟩
theorem nv_gt_tbl {w : Cond} (h : w ∈ nv_gt) : w ∈ lw_tbl := (List.mem_filter.mp h).1
/-- a method: its name, its bytes, its locals, what it answers -/
abbrev nv_MI : Type := MethodName × ByteArray × Nat × Option FieldType
abbrev nv_Hp : Type := Nat → Nat → Int32
abbrev nv_Zp : Type := Nat → Nat → Bool
abbrev nv_Sg : Type := nv_Hp × nv_Zp × Nat
abbrev nv_R : Type := Option Value × nv_Sg
/-- what is fixed: launch, class numbers, array classes, the places of statics and of the script, the script -/
abbrev nv_G : Type := Launch × va_G × (Nat → ClassId) × (Nat → Nat) × Nat × (Nat → Int32)
def nv_cV (ad : Nat → Nat) : Value → Value
  | .ref k => .ref (ad k)
  | v => v
theorem nv_cV_int (ad : Nat → Nat) (x : Int32) : nv_cV ad (.int x) = .int x := rfl
theorem nv_cV_long (ad : Nat → Nat) (x : Int64) : nv_cV ad (.long x) = .long x := rfl
theorem nv_cV_ref (ad : Nat → Nat) (k : Nat) : nv_cV ad (.ref k) = .ref (ad k) := rfl
theorem nv_cV_cat (ad : Nat → Nat) (v : Value) : (nv_cV ad v).category = v.category := by cases v <;> rfl
/-- shapes: an array of ints; an array of references to places b, b + w, ..; an object: its class, its fields (ints, or the place that a reference names) -/
abbrev nv_Sh : Type := (Nat × Option (Nat × Nat × Nat)) ⊕ (Nat × List (Option Nat))
def nv_fv (ad : Nat → Nat) (h : nv_Hp) (z : nv_Zp) (k : Nat) : Nat → List (Option Nat) → List Value
  | _, [] => []
  | j, none :: t => .int (h k j) :: nv_fv ad h z k (j + 1) t
  | j, some r :: t => (if z k j = true then .ref (ad r) else .null) :: nv_fv ad h z k (j + 1) t
def nv_ce (ad : Nat → Nat) (cA : Nat → ClassId) (h : nv_Hp) (z : nv_Zp) (k : Nat) : nv_Sh → va_E
  | .inl (n, none) => .inl (cA 0, n, .inl (h k))
  | .inl (n, some (t, b, w)) => .inl (cA t, n, .inr (.inr (.inr (.inr (fun i => if z k i = true then some (ad (b + w * i)) else none)))))
  | .inr (ci, fl) => .inr (ci, nv_fv ad h z k 0 fl)
def nv_up (h : nv_Hp) (k j : Nat) (v : Int32) : nv_Hp := fun a b => if a = k ∧ b = j then v else h a b
def nv_uz (z : nv_Zp) (k j : Nat) : nv_Zp := fun a b => if a = k ∧ b = j then true else z a b
theorem nv_up_s (h : nv_Hp) (k j : Nat) (v : Int32) : nv_up h k j v k j = v := if_pos ⟨rfl, rfl⟩
theorem nv_up_k (h : nv_Hp) {k j a b : Nat} (v : Int32) (hn : a ≠ k) : nv_up h k j v a b = h a b := if_neg (fun q => hn q.1)
theorem nv_up_j (h : nv_Hp) {k j a b : Nat} (v : Int32) (hn : b ≠ j) : nv_up h k j v a b = h a b := if_neg (fun q => hn q.2)
theorem nv_fv_get (ad : Nat → Nat) (h : nv_Hp) (z : nv_Zp) (k : Nat) : ∀ (fl : List (Option Nat)) (j i : Nat), (nv_fv ad h z k j fl)[i]? = (fl[i]?).map (fun o => match o with | none => .int (h k (j + i)) | some r => if z k (j + i) = true then .ref (ad r) else .null)
  | [], j, i => by simp [nv_fv]
  | none :: t, j, 0 => by simp [nv_fv]
  | some r :: t, j, 0 => by simp [nv_fv]
  | none :: t, j, i + 1 => by
    simp only [nv_fv, List.getElem?_cons_succ]
    rw [nv_fv_get ad h z k t (j + 1) i]
    simp only [Nat.add_assoc, Nat.add_comm 1 i]
  | some r :: t, j, i + 1 => by
    simp only [nv_fv, List.getElem?_cons_succ]
    rw [nv_fv_get ad h z k t (j + 1) i]
    simp only [Nat.add_assoc, Nat.add_comm 1 i]
theorem nv_fv_len (ad : Nat → Nat) (h : nv_Hp) (z : nv_Zp) (k : Nat) : ∀ (fl : List (Option Nat)) (j : Nat), (nv_fv ad h z k j fl).length = fl.length
  | [], j => rfl
  | none :: t, j => by simp [nv_fv, nv_fv_len ad h z k t]
  | some r :: t, j => by simp [nv_fv, nv_fv_len ad h z k t]
theorem nv_fv_int {ad : Nat → Nat} {h : nv_Hp} {z : nv_Zp} {k j : Nat} {fl : List (Option Nat)} (hj : fl[j]? = some none) : (nv_fv ad h z k 0 fl)[j]? = some (.int (h k j)) := by
  rw [nv_fv_get, hj]; simp
theorem nv_fv_ref {ad : Nat → Nat} {h : nv_Hp} {z : nv_Zp} {k j r : Nat} {fl : List (Option Nat)} (hj : fl[j]? = some (some r)) (hz : z k j = true) : (nv_fv ad h z k 0 fl)[j]? = some (.ref (ad r)) := by
  rw [nv_fv_get, hj]; simp [hz]
theorem nv_fv_set {ad : Nat → Nat} {h : nv_Hp} {z : nv_Zp} {k j : Nat} {fl : List (Option Nat)} {v : Int32} (hj : fl[j]? = some none) : (nv_fv ad h z k 0 fl).set j (.int v) = nv_fv ad (nv_up h k j v) z k 0 fl := by
  apply List.ext_getElem?
  intro i
  have hl : j < fl.length := (List.getElem?_eq_some_iff.mp hj).1
  by_cases hi : i = j
  · subst hi
    rw [List.getElem?_set_self (by rw [nv_fv_len]; exact hl), nv_fv_int hj, nv_up_s]
  · rw [List.getElem?_set_ne (Ne.symm hi), nv_fv_get, nv_fv_get]
    simp only [Nat.zero_add]
    rw [nv_up_j h v hi]
theorem nv_fv_setr {ad : Nat → Nat} {h : nv_Hp} {z : nv_Zp} {k j r : Nat} {fl : List (Option Nat)} (hj : fl[j]? = some (some r)) : (nv_fv ad h z k 0 fl).set j (.ref (ad r)) = nv_fv ad h (nv_uz z k j) k 0 fl := by
  apply List.ext_getElem?
  intro i
  have hl : j < fl.length := (List.getElem?_eq_some_iff.mp hj).1
  by_cases hi : i = j
  · subst hi
    rw [List.getElem?_set_self (by rw [nv_fv_len]; exact hl), nv_fv_ref hj (by simp [nv_uz])]
  · rw [List.getElem?_set_ne (Ne.symm hi), nv_fv_get, nv_fv_get]
    simp [nv_uz, hi]
theorem nv_fv_cong {ad ad' : Nat → Nat} {h h' : nv_Hp} {z z' : nv_Zp} {k : Nat} : ∀ (fl : List (Option Nat)) (j : Nat), (∀ i, h' k i = h k i) → (∀ i, z' k i = z k i) → (∀ r, some r ∈ fl → ad' r = ad r) → nv_fv ad' h' z' k j fl = nv_fv ad h z k j fl
  | [], j, _, _, _ => rfl
  | none :: t, j, h1, h2, h3 => by simp only [nv_fv]; rw [h1, nv_fv_cong t (j + 1) h1 h2 (fun r hr => h3 r (List.mem_cons_of_mem _ hr))]
  | some r :: t, j, h1, h2, h3 => by simp only [nv_fv]; rw [h2, h3 r List.mem_cons_self, nv_fv_cong t (j + 1) h1 h2 (fun r hr => h3 r (List.mem_cons_of_mem _ hr))]
theorem nv_ce_cong {ad : Nat → Nat} {cA : Nat → ClassId} {h h' : nv_Hp} {z z' : nv_Zp} {k : Nat} (e : nv_Sh) (h1 : ∀ i, h' k i = h k i) (h2 : ∀ i, z' k i = z k i) : nv_ce ad cA h' z' k e = nv_ce ad cA h z k e := by
  have e1 : h' k = h k := funext h1
  have e2 : z' k = z k := funext h2
  rcases e with ⟨n, _ | ⟨t, b, w⟩⟩ | ⟨ci, fl⟩
  · simp only [nv_ce, e1]
  · simp only [nv_ce, e2]
  · simp only [nv_ce]; rw [nv_fv_cong fl 0 h1 h2 (fun _ _ => rfl)]
