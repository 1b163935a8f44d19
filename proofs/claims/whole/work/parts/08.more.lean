/-! ===== forms that the printed walks use ===== -/
def nv_zt : nv_Zp := fun _ _ => true
abbrev nv_s (h : nv_Hp) : nv_Sg := (h, nv_zt, nv_NN)
def nv_bi : Bool → Int32
  | true => 1
  | false => 0
def nv_fu : Nat := 4000
def nv_lt {α β : Type} (a : α) (f : α → β) : β := f a
theorem nv_ltE {α β : Type} {a : α} {f : α → β} {r : β} {P : α → Prop} (hf : nv_lt a f = r) (k : ∀ x, f x = r → P x) : P a := k a hf
theorem nv_ip {α : Type} {c : Prop} [Decidable c] {a b v : α} (hc : c) (h : (if c then a else b) = v) : a = v := (if_pos hc).symm.trans h
theorem nv_in {α : Type} {c : Prop} [Decidable c] {a b v : α} (hc : ¬ c) (h : (if c then a else b) = v) : b = v := (if_neg hc).symm.trans h
theorem nv_gd {α : Type} {c : Prop} [Decidable c] {a : Option α} {v : α} (h : (if c then a else none) = some v) : c ∧ a = some v := by
  by_cases hc : c
  · exact ⟨hc, (if_pos hc).symm.trans h⟩
  · rw [if_neg hc] at h
    cases h
theorem nv_bd {α β : Type} {a : Option α} {f : α → Option β} {v : β} (h : a.bind f = some v) : ∃ q, a = some q ∧ f q = some v := Option.bind_eq_some_iff.mp h
theorem nv_bz (b : Bool) : narrow .boolean (.int (nv_bi b)) = .int (nv_bi b) := by cases b <;> rfl
/-- objects by class; int arrays by length -/
def nv_fl (ci k : Nat) : List (Option Nat) := match ci with
  | 0 => [none, none, none, none, none]
  | 1 => [none, none, none, none]
  | 2 => [none, none, none, none, none, none, none]
  | 3 => [some (k + 1), some (k + 2), none, none]
  | 4 => [none, none, none, none, none, none, none, none, none, none]
  | 5 => [some (k + 1), none, none, none]
  | _ => []
def nv_O (ci k : Nat) : Prop := k < nv_NN ∧ nv_shp k = .inr (ci, nv_fl ci k)
def nv_A (len k : Nat) : Prop := k < nv_NN ∧ nv_shp k = .inl (len, none)
theorem nv_inb_lt {i : Int32} {n : Nat} (h : nv_inb i n = true) : i.toNatClampNeg < n := by
  unfold nv_inb at h
  simp only [Bool.and_eq_true, decide_eq_true_eq] at h
  exact h.2
theorem nv_o4j : ∀ j, j < 12 → nv_O 4 (13 + j) := by
  intro j hj
  match j, hj with
  | 0, _ => exact ⟨by decide, rfl⟩
  | 1, _ => exact ⟨by decide, rfl⟩
  | 2, _ => exact ⟨by decide, rfl⟩
  | 3, _ => exact ⟨by decide, rfl⟩
  | 4, _ => exact ⟨by decide, rfl⟩
  | 5, _ => exact ⟨by decide, rfl⟩
  | 6, _ => exact ⟨by decide, rfl⟩
  | 7, _ => exact ⟨by decide, rfl⟩
  | 8, _ => exact ⟨by decide, rfl⟩
  | 9, _ => exact ⟨by decide, rfl⟩
  | 10, _ => exact ⟨by decide, rfl⟩
  | 11, _ => exact ⟨by decide, rfl⟩
  | n + 12, h => exact absurd h (by omega)
theorem nv_o4 {i : Int32} (h : nv_inb i 12 = true) : nv_O 4 (13 + i.toNatClampNeg) := nv_o4j _ (nv_inb_lt h)
theorem nv_o1j : ∀ j, j < 12 → nv_O 1 (25 + j) := by
  intro j hj
  match j, hj with
  | 0, _ => exact ⟨by decide, rfl⟩
  | 1, _ => exact ⟨by decide, rfl⟩
  | 2, _ => exact ⟨by decide, rfl⟩
  | 3, _ => exact ⟨by decide, rfl⟩
  | 4, _ => exact ⟨by decide, rfl⟩
  | 5, _ => exact ⟨by decide, rfl⟩
  | 6, _ => exact ⟨by decide, rfl⟩
  | 7, _ => exact ⟨by decide, rfl⟩
  | 8, _ => exact ⟨by decide, rfl⟩
  | 9, _ => exact ⟨by decide, rfl⟩
  | 10, _ => exact ⟨by decide, rfl⟩
  | 11, _ => exact ⟨by decide, rfl⟩
  | n + 12, h => exact absurd h (by omega)
theorem nv_o1 {i : Int32} (h : nv_inb i 12 = true) : nv_O 1 (25 + i.toNatClampNeg) := nv_o1j _ (nv_inb_lt h)
theorem nv_o2j : ∀ j, j < 10 → nv_O 2 (37 + j) := by
  intro j hj
  match j, hj with
  | 0, _ => exact ⟨by decide, rfl⟩
  | 1, _ => exact ⟨by decide, rfl⟩
  | 2, _ => exact ⟨by decide, rfl⟩
  | 3, _ => exact ⟨by decide, rfl⟩
  | 4, _ => exact ⟨by decide, rfl⟩
  | 5, _ => exact ⟨by decide, rfl⟩
  | 6, _ => exact ⟨by decide, rfl⟩
  | 7, _ => exact ⟨by decide, rfl⟩
  | 8, _ => exact ⟨by decide, rfl⟩
  | 9, _ => exact ⟨by decide, rfl⟩
  | n + 10, h => exact absurd h (by omega)
theorem nv_o2 {i : Int32} (h : nv_inb i 10 = true) : nv_O 2 (37 + i.toNatClampNeg) := nv_o2j _ (nv_inb_lt h)
theorem nv_o0j : ∀ j, j < 12 → nv_O 0 (47 + j) := by
  intro j hj
  match j, hj with
  | 0, _ => exact ⟨by decide, rfl⟩
  | 1, _ => exact ⟨by decide, rfl⟩
  | 2, _ => exact ⟨by decide, rfl⟩
  | 3, _ => exact ⟨by decide, rfl⟩
  | 4, _ => exact ⟨by decide, rfl⟩
  | 5, _ => exact ⟨by decide, rfl⟩
  | 6, _ => exact ⟨by decide, rfl⟩
  | 7, _ => exact ⟨by decide, rfl⟩
  | 8, _ => exact ⟨by decide, rfl⟩
  | 9, _ => exact ⟨by decide, rfl⟩
  | 10, _ => exact ⟨by decide, rfl⟩
  | 11, _ => exact ⟨by decide, rfl⟩
  | n + 12, h => exact absurd h (by omega)
theorem nv_o0 {i : Int32} (h : nv_inb i 12 = true) : nv_O 0 (47 + i.toNatClampNeg) := nv_o0j _ (nv_inb_lt h)
theorem nv_o3j : ∀ j, j < 2 → nv_O 3 (59 + 3 * j) := by
  intro j hj
  match j, hj with
  | 0, _ => exact ⟨by decide, rfl⟩
  | 1, _ => exact ⟨by decide, rfl⟩
  | n + 2, h => exact absurd h (by omega)
theorem nv_o3 {i : Int32} (h : nv_inb i 2 = true) : nv_O 3 (59 + 3 * i.toNatClampNeg) := nv_o3j _ (nv_inb_lt h)
theorem nv_o5j : ∀ j, j < 4 → nv_O 5 (65 + 2 * j) := by
  intro j hj
  match j, hj with
  | 0, _ => exact ⟨by decide, rfl⟩
  | 1, _ => exact ⟨by decide, rfl⟩
  | 2, _ => exact ⟨by decide, rfl⟩
  | 3, _ => exact ⟨by decide, rfl⟩
  | n + 4, h => exact absurd h (by omega)
theorem nv_o5 {i : Int32} (h : nv_inb i 4 = true) : nv_O 5 (65 + 2 * i.toNatClampNeg) := nv_o5j _ (nv_inb_lt h)
def nv_isc (ci : Nat) : nv_Sh → Bool
  | .inr (c, _) => c == ci
  | _ => false
theorem nv_k3 : ∀ k, k < nv_NN → nv_isc 3 (nv_shp k) = true → k = 59 ∨ k = 62 := by decide +kernel
theorem nv_o3b {k : Nat} (h : nv_O 3 k) : nv_A 60 (k + 1) := by
  rcases nv_k3 k h.1 (by rw [h.2]; rfl) with rfl | rfl <;> exact ⟨by decide, rfl⟩
theorem nv_o3w {k : Nat} (h : nv_O 3 k) : nv_A 9 (k + 2) := by
  rcases nv_k3 k h.1 (by rw [h.2]; rfl) with rfl | rfl <;> exact ⟨by decide, rfl⟩
theorem nv_k5 : ∀ k, k < nv_NN → nv_isc 5 (nv_shp k) = true → k = 65 ∨ k = 67 ∨ k = 69 ∨ k = 71 := by decide +kernel
theorem nv_o5i {k : Nat} (h : nv_O 5 k) : nv_A 60 (k + 1) := by
  rcases nv_k5 k h.1 (by rw [h.2]; rfl) with rfl | rfl | rfl | rfl <;> exact ⟨by decide, rfl⟩
section
variable {G : nv_G} {d : Nat} {M : nv_MI} {pc nx tgt : Nat} {ls : List (Option Value)} {st : List Value} {h : nv_Hp} {r : nv_R} {σ : nv_Sg}
theorem nv_ifeqB {b : Bool} (hi : nv_dif M pc .eq tgt nx) (K1 : b = true → nv_E G d M nx ls st σ r) (K2 : ¬ b = true → nv_E G d M tgt ls st σ r) : nv_E G d M pc ls (.int (nv_bi b) :: st) σ r :=
  nv_ifeq hi (fun c => K2 (fun q => by subst q; exact absurd c (by decide))) (fun c => K1 (by cases b; exact absurd rfl c; rfl))
theorem nv_ifneB {b : Bool} (hi : nv_dif M pc .ne tgt nx) (K1 : b = true → nv_E G d M tgt ls st σ r) (K2 : ¬ b = true → nv_E G d M nx ls st σ r) : nv_E G d M pc ls (.int (nv_bi b) :: st) σ r :=
  nv_ifne hi (fun c => K2 (fun q => by subst q; exact absurd c (by decide))) (fun c => K1 (by cases b; exact absurd rfl c; rfl))
theorem nv_ireturnB {b : Bool} (hi : decode M.2.1 pc = .ok (.ireturn, 1)) (ht : M.2.2.2 = some .boolean) : nv_E G d M pc ls [.int (nv_bi b)] σ (some (.int (nv_bi b)), σ) := nv_ireturn hi ht (nv_bz b)
theorem nv_ireturnI {v : Int32} (hi : decode M.2.1 pc = .ok (.ireturn, 1)) (ht : M.2.2.2 = some .int) : nv_E G d M pc ls [.int v] σ (some (.int v), σ) := nv_ireturn hi ht rfl
/-- fields of objects by class -/
theorem nv_gI {ix ci j k : Nat} (hF : nv_Fl M.1.cls ix ci j) (hi : nv_dc M pc (.getfield ix) 3 nx) (hk : nv_O ci k) (hj : (nv_fl ci k)[j]? = some none) (K : nv_E G d M nx ls (.int (h k j) :: st) (nv_s h) r) : nv_E G d M pc ls (.ref k :: st) (nv_s h) r := nv_getI hF hi hk hj K
theorem nv_gR {ix ci j k t : Nat} (hF : nv_Fl M.1.cls ix ci j) (hi : nv_dc M pc (.getfield ix) 3 nx) (hk : nv_O ci k) (hj : (nv_fl ci k)[j]? = some (some t)) (K : nv_E G d M nx ls (.ref t :: st) (nv_s h) r) : nv_E G d M pc ls (.ref k :: st) (nv_s h) r := nv_getR hF hi hk hj rfl K
theorem nv_pI {ix ci j k : Nat} {x : Int32} (hF : nv_Fp M.1.cls ix ci j .int) (hi : nv_dc M pc (.putfield ix) 3 nx) (hk : nv_O ci k) (hj : (nv_fl ci k)[j]? = some none) (K : nv_E G d M nx ls st (nv_s (nv_up h k j x)) r) : nv_E G d M pc ls (.int x :: .ref k :: st) (nv_s h) r := nv_putI hF hi hk hj rfl rfl K
theorem nv_pB {ix ci j k : Nat} {x : Int32} (hF : nv_Fp M.1.cls ix ci j .boolean) (hi : nv_dc M pc (.putfield ix) 3 nx) (hk : nv_O ci k) (hj : (nv_fl ci k)[j]? = some none) (hn : narrow .boolean (.int x) = .int x) (hfit : fits .boolean (.int x) = true) (K : nv_E G d M nx ls st (nv_s (nv_up h k j x)) r) : nv_E G d M pc ls (.int x :: .ref k :: st) (nv_s h) r := nv_putI hF hi hk hj hn hfit K
/-- fields of the two objects themselves: 0 and 73, by what their shapes say -/
theorem nv_tI {ix ci j k : Nat} {fl : List (Option Nat)} (hF : nv_Fl M.1.cls ix ci j) (hi : nv_dc M pc (.getfield ix) 3 nx) (hk : k < nv_NN ∧ nv_shp k = .inr (ci, fl)) (hj : fl[j]? = some none) (K : nv_E G d M nx ls (.int (h k j) :: st) (nv_s h) r) : nv_E G d M pc ls (.ref k :: st) (nv_s h) r := nv_getI hF hi hk hj K
theorem nv_tR {ix ci j k t : Nat} {fl : List (Option Nat)} (hF : nv_Fl M.1.cls ix ci j) (hi : nv_dc M pc (.getfield ix) 3 nx) (hk : k < nv_NN ∧ nv_shp k = .inr (ci, fl)) (hj : fl[j]? = some (some t)) (K : nv_E G d M nx ls (.ref t :: st) (nv_s h) r) : nv_E G d M pc ls (.ref k :: st) (nv_s h) r := nv_getR hF hi hk hj rfl K
theorem nv_tP {ix ci j k : Nat} {fl : List (Option Nat)} {x : Int32} (hF : nv_Fp M.1.cls ix ci j .int) (hi : nv_dc M pc (.putfield ix) 3 nx) (hk : k < nv_NN ∧ nv_shp k = .inr (ci, fl)) (hj : fl[j]? = some none) (K : nv_E G d M nx ls st (nv_s (nv_up h k j x)) r) : nv_E G d M pc ls (.int x :: .ref k :: st) (nv_s h) r := nv_putI hF hi hk hj rfl rfl K
/-- arrays, with the place named -/
theorem nv_aI {i : Int32} {k len j : Nat} (hi : nv_dc M pc .iaload 1 nx) (hk : nv_A len k) (hin : nv_inb i len = true) (hj : i.toNatClampNeg = j) (K : nv_E G d M nx ls (.int (h k j) :: st) (nv_s h) r) : nv_E G d M pc ls (.int i :: .ref k :: st) (nv_s h) r := by
  subst hj
  exact nv_iald hi hk hin K
theorem nv_aP {i x : Int32} {k len j : Nat} (hi : nv_dc M pc .iastore 1 nx) (hk : nv_A len k) (hin : nv_inb i len = true) (hj : i.toNatClampNeg = j) (K : nv_E G d M nx ls st (nv_s (nv_up h k j x)) r) : nv_E G d M pc ls (.int x :: .int i :: .ref k :: st) (nv_s h) r := by
  subst hj
  exact nv_iast hi hk hin K
theorem nv_aR {i : Int32} {k len t b w q : Nat} (hi : nv_dc M pc .aaload 1 nx) (hk : k < nv_NN ∧ nv_shp k = .inl (len, some (t, b, w))) (ht : ∃ C, (nv_tys G.2.2.1)[t]? = some (G.2.2.1 t, .object C)) (hin : nv_inb i len = true) (hq : b + w * i.toNatClampNeg = q) (K : nv_E G d M nx ls (.ref q :: st) (nv_s h) r) : nv_E G d M pc ls (.int i :: .ref k :: st) (nv_s h) r := by
  subst hq
  exact nv_aald hi hk ht hin rfl K
theorem nv_q1 (b x : Nat) : b + 1 * x = b + x := by rw [Nat.one_mul]
theorem nv_sI {i j : Nat} {nm ds : String} {l : List Int32} {x : Int32} (hi : nv_dc M pc .iaload 1 nx) (hs : nv_stat i = some (.int, nm, ds, l)) (hin : nv_inb x l.length = true) (K : nv_E G d M nx ls (.int (l.getD x.toNatClampNeg 0) :: st) σ r) : nv_E G d M pc ls (.int x :: .ref (1000 + i) :: st) σ r := nv_ialdS hi hs hin K
/-- calls by what they answer -/
theorem nv_cSi {ix d' na : Nat} {y : nv_MI} {As : List Value} {h' : nv_Hp} {v : Int32} (hM : nv_Mt G d' y As (nv_s h) (some (.int v), nv_s h')) (hi : nv_dc M pc (.invokestatic ix) 3 nx) (hl' : Cond.methodLink M.1.cls ix y.1 ∈ nv_gt) (hy : nv_Ys y na) (hn : As.length = na) (hd : d' + 1 ≤ d) {stk : List Value} (hs : As.reverse ++ st = stk) (hst : (st.map fun v => v.category).sum ≤ 8)
    (K : nv_E G d M nx ls (.int v :: st) (nv_s h') r) : nv_E G d M pc ls stk (nv_s h) r := by
  subst hs
  exact nv_callS hM hi hl' hy hn hd rfl hst K
theorem nv_cVi {ix d' na k ci : Nat} {fl : List (Option Nat)} {T : u_T} {N : Nat} {y : nv_MI} {As : List Value} {h' : nv_Hp} {v : Int32} (hM : nv_Mt G d' y (.ref k :: As) (nv_s h) (some (.int v), nv_s h')) (hi : nv_dc M pc (.invokevirtual ix) 3 nx) (hl' : Cond.methodLink M.1.cls ix y.1 ∈ nv_gt) (hy : nv_Yv y na) (hk : k < nv_NN ∧ nv_shp k = .inr (ci, fl)) (hc : nv_cls[ci]? = some (y.1.cls, T, N)) (hn : As.length = na) (hd : d' + 1 ≤ d) {stk : List Value} (hs : As.reverse ++ .ref k :: st = stk) (hst : (st.map fun v => v.category).sum ≤ 8)
    (K : nv_E G d M nx ls (.int v :: st) (nv_s h') r) : nv_E G d M pc ls stk (nv_s h) r := by
  subst hs
  exact nv_callV hM hi hl' hy hk hc hn hd rfl hst K
theorem nv_cVl {ix d' na k ci : Nat} {fl : List (Option Nat)} {T : u_T} {N : Nat} {y : nv_MI} {As : List Value} {h' : nv_Hp} {v : Int64} (hM : nv_Mt G d' y (.ref k :: As) (nv_s h) (some (.long v), nv_s h')) (hi : nv_dc M pc (.invokevirtual ix) 3 nx) (hl' : Cond.methodLink M.1.cls ix y.1 ∈ nv_gt) (hy : nv_Yv y na) (hk : k < nv_NN ∧ nv_shp k = .inr (ci, fl)) (hc : nv_cls[ci]? = some (y.1.cls, T, N)) (hn : As.length = na) (hd : d' + 1 ≤ d) {stk : List Value} (hs : As.reverse ++ .ref k :: st = stk) (hst : (st.map fun v => v.category).sum ≤ 8)
    (K : nv_E G d M nx ls (.long v :: st) (nv_s h') r) : nv_E G d M pc ls stk (nv_s h) r := by
  subst hs
  exact nv_callV hM hi hl' hy hk hc hn hd rfl hst K
theorem nv_cVv {ix d' na k ci : Nat} {fl : List (Option Nat)} {T : u_T} {N : Nat} {y : nv_MI} {As : List Value} {h' : nv_Hp} (hM : nv_Mt G d' y (.ref k :: As) (nv_s h) (none, nv_s h')) (hi : nv_dc M pc (.invokevirtual ix) 3 nx) (hl' : Cond.methodLink M.1.cls ix y.1 ∈ nv_gt) (hy : nv_Yv y na) (hk : k < nv_NN ∧ nv_shp k = .inr (ci, fl)) (hc : nv_cls[ci]? = some (y.1.cls, T, N)) (hn : As.length = na) (hd : d' + 1 ≤ d) {stk : List Value} (hs : As.reverse ++ .ref k :: st = stk) (hst : (st.map fun v => v.category).sum ≤ 8)
    (K : nv_E G d M nx ls st (nv_s h') r) : nv_E G d M pc ls stk (nv_s h) r := by
  subst hs
  exact nv_callV hM hi hl' hy hk hc hn hd rfl hst K
end
