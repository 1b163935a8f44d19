/-! ===== ways ===== -/
def wm (g : nv_Hp) (nK : Nat) : Nat := (wo (wp g) nK).length
def wj (g : nv_Hp) (nK j : Nat) : Nat := (wo (wp g) nK).getD j 0
theorem wm_le (g : nv_Hp) (nK : Nat) : wm g nK ≤ 6 := wo_len _ _
theorem wj_lt {g : nv_Hp} {nK j : Nat} (h : j < wm g nK) : wj g nK j < nK := (wo_el (wp g) nK j h).1
theorem wj_op {g : nv_Hp} {nK j : Nat} (h : j < wm g nK) : g (25 + wj g nK j) 3 = -1 := by
  have := (wo_el (wp g) nK j h).2
  unfold wp at this
  exact of_decide_eq_true this
theorem wj_inj {g : nv_Hp} {nK j k : Nat} (hj : j < wm g nK) (hk : k < wm g nK) (h : wj g nK j = wj g nK k) : j = k := wo_inj hj hk h
/-- a way as bits of the backs -/
def wW (g : nv_Hp) (nK w : Nat) : Nat := bt_set (fun j => w.testBit j) (wj g nK) (wm g nK)
theorem wW_lt {g : nv_Hp} {nK w : Nat} (hn : nK ≤ 12) : wW g nK w < 2 ^ 12 := bt_set_lt _ (fun i hi => by have := wj_lt hi; omega)
theorem wW_in {g : nv_Hp} {nK w j : Nat} (h : j < wm g nK) : (wW g nK w).testBit (wj g nK j) = w.testBit j := by
  unfold wW
  rw [bt_set_bit]
  apply Bool.eq_iff_iff.mpr
  rw [List.any_eq_true]
  constructor
  · rintro ⟨x, hx, e⟩
    simp only [Bool.and_eq_true, decide_eq_true_eq] at e
    have := wj_inj (List.mem_range.mp hx) h e.2
    rw [← this]; exact e.1
  · intro e
    exact ⟨j, List.mem_range.mpr h, by simp [e]⟩
theorem wW_out {g : nv_Hp} {nK w k : Nat} (h : ∀ j, j < wm g nK → wj g nK j ≠ k) : (wW g nK w).testBit k = false := by
  unfold wW
  rw [bt_set_bit, List.any_eq_false]
  intro x hx
  simp [h x (List.mem_range.mp hx)]
theorem sH_b {g : nv_Hp} {W k : Nat} (hk : k < 12) : sH g (nI W) k = if g (25 + k) 3 = -1 then (if W.testBit k = true then g (25 + k) 1 else 100) else g (25 + k) 3 := by
  unfold sH fc_hearingDay
  rw [nI_clamp (by omega)]
  simp only [bt_and2 (show k < 31 by omega)]
  cases W.testBit k <;> simp
theorem sH_out {g : nv_Hp} {nK w k : Nat} (hn : nK ≤ 12) (hk : k < nK) (h : ∀ j, j < wm g nK → wj g nK j ≠ k) : sH g (nI (wW g nK w)) k = sH g 0 k := by
  rw [← nI_0, sH_b (by omega), sH_b (by omega), wW_out h, Nat.zero_testBit]
theorem sH_in {g : nv_Hp} {nK w j : Nat} (hn : nK ≤ 12) (h : j < wm g nK) : sH g (nI (wW g nK w)) (wj g nK j) = if w.testBit j = true then g (25 + wj g nK j) 1 else 100 := by
  rw [sH_b (by have := wj_lt h; omega), if_pos (wj_op h), wW_in h]
def wV (g : nv_Hp) (nL nK nA : Nat) (w : Nat → Int32) (b i : Nat) : Int32 := sB g nL nK nA w (sH g (nI (wW g nK i))) b
theorem w64 {g : nv_Hp} {nK : Nat} : 2 ^ wm g nK ≤ 64 := Nat.pow_le_pow_right (n := 2) (by omega) (wm_le g nK)
theorem fc_wayOf_sp {g h : nv_Hp} {nK w : Nat} (hn : nK ≤ 12) (hw : w < 64) (h1 : h 0 17 = nI (wm g nK)) (h2 : ∀ j, j < wm g nK → h 11 j = nI (wj g nK j)) : fc_wayOf h (nI w) = some (nI (wW g nK w)) := by
  have m6 := wm_le g nK
  unfold fc_wayOf
  have key := pu_fold (fun n (u : Int32) x => fc_wayOf_4 h (nI w) n u x) (wm g nK) (fun i u => u = nI (bt_set (fun j => w.testBit j) (wj g nK) i)) (fun i u => if w.testBit i = true then u ||| nI (2 ^ wj g nK i) else u) some (fun n i u hi hI => by
    have o12 := wj_lt hi
    constructor
    · rw [fc_wayOf_4, h1, if_neg (nI_ge hi (by omega)), bt_has (by omega) (by omega), if_pos (pu_inb (by omega) (by omega)), nI_clamp (by omega), h2 i hi, bt_one (by omega), nI_1]
      cases w.testBit i <;> rfl
    · rw [bt_set, hI]
      cases w.testBit i
      · rfl
      · rw [if_pos rfl, if_pos rfl, bt_or]) (fun n u _ => by
    rw [fc_wayOf_4, h1, if_pos (nI_le (Nat.le_refl _) (by omega))]) (wm g nK) 0 nv_fu 0 (by omega) (show wm g nK < 4000 by omega) rfl
  obtain ⟨k1, k2⟩ := key
  rw [nI_0, k2] at k1
  exact k1
theorem fc_try_sp {h0 h : nv_Hp} {nL nK nB nA k1 b : Nat} {Q : nv_Hp → Prop} (R : pu_Rm Q h0 nL nK nB nA) (s : pu_sm h0 h) (hb : b < nB) (hk1 : 59 ≤ k1 ∧ k1 ≤ 64) : ∃ h', fc_tryWays h k1 (37 + b) = some (nI (2 ^ wm h0 nK), h') ∧ (∀ i, i < 2 ^ wm h0 nK → h' 12 i = wV h0 nL nK nA (h0 k1) b i) ∧ h' 0 17 = nI (wm h0 nK) ∧ (∀ j, j < wm h0 nK → h' 11 j = nI (wj h0 nK j)) ∧ pu_sm h0 h' := by
  have b3 := R.2.1.2.1.2.2
  have m6 := wm_le h0 nK
  obtain ⟨q, o1, o2, o3, o4⟩ := fc_opn_sp R s
  have e3 : q 0 17 = nI (wm h0 nK) := o3
  have e4 : ∀ j, j < wm h0 nK → q 11 j = nI (wj h0 nK j) := o4
  have sq : pu_sm h0 q := pu_sm_t s fun k j z => o2 k j (fun y => z (by unfold pu_scr; omega)) (fun y => z (by unfold pu_scr; omega))
  have le := w64 (g := h0) (nK := nK)
  have smg : ∀ g : nv_Hp, (∀ k, k ≠ 12 → g k = q k) → pu_sm h0 g := fun g hg => pu_sm_t sq fun k j z => by rw [hg k (fun y => z (by unfold pu_scr; omega))]
  have key := pu_fold (fun n (g : nv_Hp) x => fc_tryWays_14 k1 (37 + b) (nI (2 ^ wm h0 nK)) n x g) (2 ^ wm h0 nK) (fun i g => (∀ j, j < i → g 12 j = wV h0 nL nK nA (h0 k1) b j) ∧ ∀ k, k ≠ 12 → g k = q k) (fun i g => nv_up g 12 i (wV h0 nL nK nA (h0 k1) b i)) (fun g => some (nI (2 ^ wm h0 nK), g)) (fun n i g hi hI => by
    obtain ⟨i1, i2⟩ := hI
    refine ⟨?_, fun j hj => ?_, fun k hk => (pu_up_c hk).trans (i2 k hk)⟩
    · have ek : g k1 = h0 k1 := pu_sm_c (smg g i2) (by omega)
      have eb := fc_bound_R (k1 := k1) R (smg g i2) hb (nI (wW h0 nK i))
      rw [ek] at eb
      rw [fc_tryWays_14, if_neg (nI_ge hi (by omega)), if_neg (show ¬ (64 : Int32) ≤ nI i from nI_ge (b := 64) (by omega) (by omega)), fc_wayOf_sp (g := h0) b3 (by omega) (by rw [i2 0 (by decide)]; exact e3) (fun j hj => by rw [i2 11 (by decide)]; exact e4 j hj), Option.bind_some, eb, Option.bind_some, if_pos (pu_inb (by omega) (by omega)), pu_ltE, nI_clamp (by omega), nI_1]
      rfl
    · by_cases c : j = i
      · subst c; rw [nv_up_s]
      · rw [nv_up_j _ _ c]; exact i1 j (by omega)) (fun n g _ => by
    rw [fc_tryWays_14, if_pos (nI_le (Nat.le_refl _) (by omega))]) (2 ^ wm h0 nK) 0 nv_fu q (by omega) (show 2 ^ wm h0 nK < 4000 by omega) ⟨fun j hj => by omega, fun _ _ => rfl⟩
  obtain ⟨p1, p2, p3⟩ := key
  generalize List.foldl (fun g i => nv_up g 12 i (wV h0 nL nK nA (h0 k1) b i)) q (List.range' 0 (2 ^ wm h0 nK)) = g at p1 p2 p3
  rw [nI_0] at p1
  refine ⟨g, ?_, p2, by rw [p3 0 (by decide)]; exact e3, fun j hj => by rw [p3 11 (by decide)]; exact e4 j hj, smg g p3⟩
  unfold fc_tryWays
  rw [o1, Option.bind_some, pu_ltE, e3, bt_one (by omega)]
  exact p1
