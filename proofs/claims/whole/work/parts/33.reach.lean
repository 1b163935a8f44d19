/-! ===== specs: room, roots, reach ===== -/
def sp_lim (w lvi : Nat → Int32) : Int32 := if lvi 0 = 1 then 10 * w 2 else lvi 5
def sp_room (w lvi bg : Nat → Int32) : Bool := fc_isWithin (bg 6) (lvi 6) (lvi 7) && ((decide (lvi 0 = 1) || fc_hasBit (lvi 4) (bg 4)) && !decide (sp_lim w lvi + sp_lim w lvi * w 3 / 100 < bg 5))
def sp_aim (w lvi bg : Nat → Int32) : Bool := decide (lvi 2 = bg 1) && (if lvi 0 = 2 then decide (bg 2 = lvi 1) && (decide (w 1 = 1) && decide (bg 3 = lvi 3)) else decide (bg 2 = lvi 1) || decide (bg 2 = -1))
def sp_has (w hd lvi : Nat → Int32) (bk : Nat → Nat → Int32) (bg : Nat → Int32) (nK i : Nat) : Bool := sp_room w lvi bg && !sp_end w hd lvi bk bg nK i
def sp_chain (has : Nat → Bool) (lv : Nat → Nat → Int32) : Nat → Nat → Bool
  | 0, _ => true
  | n + 1, i => has i && (if lv i 8 = -1 then true else sp_chain has lv n (lv i 8).toNatClampNeg)
def sp_reach (w hd : Nat → Int32) (lv bk : Nat → Nat → Int32) (bg : Nat → Int32) (nK i : Nat) : Bool := sp_aim w (lv i) bg && (!decide (w 8 < lv i 9) && sp_chain (fun j => sp_has w hd (lv j) bk bg nK j) lv 13 i)
def sp_roots (lv : Nat → Nat → Int32) (N : Nat) : Prop := ∀ i, i < N → lv i 8 = -1 ∨ ∃ r, r < i ∧ lv i 8 = nI r
theorem sp_room_cg {w w' lvi lvi' bg bg' : Nat → Int32} (hw : ∀ j, j < 9 → w j = w' j) (hl : ∀ f, f < 10 → lvi f = lvi' f) (hg : ∀ f, 0 < f → f < 7 → bg f = bg' f) : sp_room w lvi bg = sp_room w' lvi' bg' := by
  unfold sp_room sp_lim
  rw [hw 2 (by omega), hw 3 (by omega), hl 0 (by omega), hl 4 (by omega), hl 5 (by omega), hl 6 (by omega), hl 7 (by omega), hg 4 (by omega) (by omega), hg 5 (by omega) (by omega), hg 6 (by omega) (by omega)]
theorem sp_aim_cg {w w' lvi lvi' bg bg' : Nat → Int32} (hw : ∀ j, j < 9 → w j = w' j) (hl : ∀ f, f < 10 → lvi f = lvi' f) (hg : ∀ f, 0 < f → f < 7 → bg f = bg' f) : sp_aim w lvi bg = sp_aim w' lvi' bg' := by
  unfold sp_aim
  rw [hw 1 (by omega), hl 0 (by omega), hl 1 (by omega), hl 2 (by omega), hl 3 (by omega), hg 1 (by omega) (by omega), hg 2 (by omega) (by omega), hg 3 (by omega) (by omega)]
theorem pu_m1 {i : Nat} (hi : i < 2 ^ 31) : ¬ nI i = -1 := by
  intro q
  have := congrArg Int32.toInt q
  rw [nI_toInt hi, show (-1 : Int32).toInt = -1 by decide] at this
  omega
theorem sp_chain_cg {has has' : Nat → Bool} {lv lv' : Nat → Nat → Int32} {N : Nat} (hN : N ≤ 13) (hh : ∀ i, i < N → has i = has' i) (hl : ∀ i, i < N → lv i 8 = lv' i 8) (hr : sp_roots lv N) : ∀ m i, i < N → sp_chain has lv m i = sp_chain has' lv' m i := by
  intro m
  induction m with
  | zero => intro i hi; rfl
  | succ m ih =>
    intro i hi
    rw [sp_chain, sp_chain, hh i hi, ← hl i hi]
    rcases hr i hi with q | ⟨r, hr1, q⟩
    · rw [q]; simp
    · rw [q, nI_clamp (by omega), if_neg (pu_m1 (by omega)), if_neg (pu_m1 (by omega)), ih r (by omega)]
theorem sp_reach_cg {w w' hd hd' : Nat → Int32} {lv lv' bk bk' : Nat → Nat → Int32} {bg bg' : Nat → Int32} {nK N i : Nat} (hN : N ≤ 13) (hi : i < N) (hw : ∀ j, j < 9 → w j = w' j) (hh : ∀ k, k < nK → hd k = hd' k) (hl : ∀ i, i < N → ∀ f, f < 10 → lv i f = lv' i f) (hb : ∀ k, k < nK → ∀ f, f < 4 → bk k f = bk' k f) (hg : ∀ f, 0 < f → f < 7 → bg f = bg' f) (hr : sp_roots lv N) : sp_reach w hd lv bk bg nK i = sp_reach w' hd' lv' bk' bg' nK i := by
  unfold sp_reach
  rw [sp_aim_cg hw (hl i hi) hg, hw 8 (by omega), hl i hi 9 (by omega)]
  rw [sp_chain_cg (has' := fun j => sp_has w' hd' (lv' j) bk' bg' nK j) (lv' := lv') hN (fun j hj => by
    unfold sp_has
    rw [sp_room_cg hw (hl j hj) hg, sp_end_cg hw hh (hl j hj) hb hg]) (fun j hj => hl j hj 8 (by omega)) hr 13 i hi]
theorem fc_room_sp (h : nv_Hp) (k0 k1 k2 : Nat) : fc_hasRoomFor h k0 k1 k2 = sp_room (h k0) (h k1) (h k2) := by
  unfold fc_hasRoomFor fc_hasRoomFor_40 fc_stretched fc_limitOf sp_room sp_lim
  by_cases a : h k1 0 = 1 <;> cases fc_isWithin (h k2 6) (h k1 6) (h k1 7) <;> cases fc_hasBit (h k1 4) (h k2 4) <;> simp [a] <;> split <;> simp_all
theorem fc_aim_sp (h : nv_Hp) (k0 k1 k2 : Nat) : fc_isAimedAt h k0 k1 k2 = sp_aim (h k0) (h k1) (h k2) := by
  unfold fc_isAimedAt sp_aim
  by_cases a : h k1 2 = h k2 1 <;> by_cases b : h k1 0 = 2 <;> by_cases c : h k2 2 = h k1 1 <;> simp [a, b, c]
theorem pm_has_sp {h : nv_Hp} {i b nK : Nat} (hK : h 73 17 = nI nK) (hn : nK ≤ 12) (hi : i < 13) (hb : b < 10) (hw : h 108 0 = 0 ∨ h 108 0 = 1 ∨ h 108 0 = 2) : pm_has h (nI i) (nI b) = some (sp_has (h 108) (h 93) (fun f => h (79 + f) i) (fun k f => h (89 + f) k) (fun f => h (93 + f) b) nK i) := by
  unfold pm_has pm_has_40 pm_limitOf nv_lt
  rw [pm_end_sp hK hn hi hb hw, pu_in]
  simp only [nI_clamp (show i < 2 ^ 31 by omega), nI_clamp (show b < 2 ^ 31 by omega), pu_bit]
  unfold sp_has sp_room sp_lim fc_hasBit
  by_cases a : h 79 i = 1 <;> cases fc_isWithin (h 99 b) (h 85 i) (h 86 i) <;> by_cases c : (h 83 i >>> (h 97 b &&& 31)) &&& 1 = 0 <;> cases sp_end (h 108) (h 93) (fun f => h (79 + f) i) (fun k f => h (89 + f) k) (fun f => h (93 + f) b) nK i <;> simp [a, c] <;> split <;> simp_all
theorem fc_chain_sp {h : nv_Hp} {k1 k3 nL nK : Nat} {way : Int32} (hL : h 0 7 = nI nL) (hnL : nL ≤ 12) (hK : h 0 8 = nI nK) (hn : nK ≤ 12) (hr : sp_roots (fun i => h (13 + i)) nL) : ∀ (i m n t : Nat), i < nL → i < m → i + t < 12 → i + 1 < n → fc_reachesIn_38 h k1 k3 way n (nI i) (nI t) = some (sp_chain (fun j => sp_has (h k1) (fun k => fc_hearingDay h (nI k) way) (h (13 + j)) (fun k => h (25 + k)) (h k3) nK j) (fun j => h (13 + j)) m i) := by
  intro i
  induction i using Nat.strongRecOn with
  | ind i ih =>
    intro m n t hi hm ht hf
    obtain ⟨n, rfl⟩ : ∃ n', n = n' + 1 := ⟨n - 1, by omega⟩
    obtain ⟨m, rfl⟩ : ∃ m', m = m' + 1 := ⟨m - 1, by omega⟩
    have g : fc_isLeave h (nI i) = true := by unfold fc_isLeave; rw [hL]; exact pu_ido (by omega) hi
    rw [fc_reachesIn_38, if_neg (show ¬ (12 : Int32) ≤ nI t from nI_ge (b := 12) (by omega) (by omega)), if_pos g, if_pos (pu_inb (by omega) (by omega)), nI_clamp (by omega), fc_room_sp, fc_end_sp hK hn (by omega), sp_chain]
    unfold sp_has
    by_cases a : sp_room (h k1) (h (13 + i)) (h k3) = true
    · rw [if_pos a, a, Bool.true_and, Option.bind_some]
      cases e : sp_end (h k1) (fun k => fc_hearingDay h (nI k) way) (h (13 + i)) (fun k => h (25 + k)) (h k3) nK i
      · rw [if_neg (by decide), Bool.not_false, Bool.true_and]
        show fc_reachesIn_38 h k1 k3 way n (h (13 + i) 8) (nI t + 1) = _
        rcases hr i hi with q | ⟨r, hr1, q⟩
        · rw [show h (13 + i) 8 = -1 from q, if_pos rfl]
          obtain ⟨n, rfl⟩ : ∃ n', n = n' + 1 := ⟨n - 1, by omega⟩
          rw [fc_reachesIn_38]
          split
          · rfl
          · rw [if_neg]
            unfold fc_isLeave
            rw [show fc_isWithin (-1) 0 (h 0 7 - 1) = false from rfl]
            decide
        · rw [show h (13 + i) 8 = nI r from q, if_neg (pu_m1 (by omega)), nI_1, nI_clamp (by omega)]
          exact ih r hr1 m n (t + 1) (by omega) (by omega) (by omega) (by omega)
      · rw [if_pos rfl]; rfl
    · have a' : sp_room (h k1) (h (13 + i)) (h k3) = false := by simpa using a
      rw [if_neg a, a']; rfl
theorem pm_chain_sp {h : nv_Hp} {x2 : Int32} {N : Nat} {has : Nat → Bool} (hN : N ≤ 13) (hh : ∀ i, i < N → pm_has h (nI i) x2 = some (has i)) (hr : sp_roots (fun i f => h (79 + f) i) N) : ∀ (i m n : Nat), i < N → i < m → i + 1 < n → pm_reachesNow_127 h x2 n true (nI i) = some (sp_chain has (fun j f => h (79 + f) j) m i) := by
  intro i
  induction i using Nat.strongRecOn with
  | ind i ih =>
    intro m n hi hm hf
    obtain ⟨n, rfl⟩ : ∃ n', n = n' + 1 := ⟨n - 1, by omega⟩
    obtain ⟨m, rfl⟩ : ∃ m', m = m' + 1 := ⟨m - 1, by omega⟩
    rw [pm_reachesNow_127, if_neg (pu_m1 (by omega)), if_pos rfl, if_pos (pu_inb (by omega) (by omega)), hh i hi, nI_clamp (by omega), sp_chain]
    unfold nv_lt
    rw [Option.bind_some]
    cases e : has i
    · obtain ⟨n, rfl⟩ : ∃ n', n = n' + 1 := ⟨n - 1, by omega⟩
      show pm_reachesNow_127 h x2 (n + 1) false (h 87 i) = _
      rw [pm_reachesNow_127]
      simp
    · rw [Bool.true_and]
      rcases hr i hi with q | ⟨r, hr1, q⟩
      · obtain ⟨n, rfl⟩ : ∃ n', n = n' + 1 := ⟨n - 1, by omega⟩
        have q' : h 87 i = -1 := q
        show pm_reachesNow_127 h x2 (n + 1) true (h 87 i) = some (if h 87 i = -1 then _ else _)
        rw [q', if_pos rfl, pm_reachesNow_127, if_pos rfl]
      · have q' : h 87 i = nI r := q
        show pm_reachesNow_127 h x2 n true (h 87 i) = some (if h 87 i = -1 then _ else sp_chain has (fun j f => h (79 + f) j) m (h 87 i).toNatClampNeg)
        rw [q', if_neg (pu_m1 (by omega)), nI_clamp (by omega)]
        exact ih r hr1 m n (by omega) (by omega) (by omega)
theorem fc_reach_sp {h : nv_Hp} {k1 k3 nL nK i : Nat} {way : Int32} (hL : h 0 7 = nI nL) (hnL : nL ≤ 12) (hK : h 0 8 = nI nK) (hn : nK ≤ 12) (hr : sp_roots (fun i => h (13 + i)) nL) (hi : i < nL) : fc_reachesIn h k1 (nI i) k3 way = some (sp_reach (h k1) (fun k => fc_hearingDay h (nI k) way) (fun j => h (13 + j)) (fun k => h (25 + k)) (h k3) nK i) := by
  unfold fc_reachesIn sp_reach
  rw [nI_clamp (by omega), fc_aim_sp, ← nI_0, fc_chain_sp hL hnL hK hn hr i 13 nv_fu 0 hi (by omega) (by omega) (show i + 1 < 4000 by omega)]
  cases sp_aim (h k1) (h (13 + i)) (h k3)
  · rfl
  · rw [if_pos rfl, Bool.true_and]
    by_cases a : h (13 + i) 9 ≤ h k1 8
    · rw [if_pos a]
      have : ¬ h k1 8 < h (13 + i) 9 := Int32.not_lt.mpr a
      simp [this]
    · rw [if_neg a]
      have : h k1 8 < h (13 + i) 9 := Int32.not_le.mp a
      simp [this]
theorem pm_reach_sp {h : nv_Hp} {nK N b i : Nat} (hN : N ≤ 13) (hK : h 73 17 = nI nK) (hn : nK ≤ 12) (hb : b < 10) (hw : h 108 0 = 0 ∨ h 108 0 = 1 ∨ h 108 0 = 2) (hr : sp_roots (fun i f => h (79 + f) i) N) (hi : i < N) : pm_reachesNow h (nI i) (nI b) = some (sp_reach (h 108) (h 93) (fun j f => h (79 + f) j) (fun k f => h (89 + f) k) (fun f => h (93 + f) b) nK i) := by
  have key := pm_chain_sp (x2 := nI b) hN (fun j hj => pm_has_sp hK hn (by omega) hb hw) hr i 13 nv_fu hi (by omega) (show i + 1 < 4000 by omega)
  have keyf : pm_reachesNow_127 h (nI b) nv_fu false (nI i) = some false := by
    show pm_reachesNow_127 h (nI b) (3999 + 1) false (nI i) = some false
    rw [pm_reachesNow_127, if_neg (pu_m1 (by omega)), if_neg (by decide)]
  unfold pm_reachesNow pm_reachesNow_15 pm_reachesNow_50 sp_reach sp_aim
  simp only [nI_clamp (show i < 2 ^ 31 by omega), nI_clamp (show b < 2 ^ 31 by omega)]
  by_cases a : h 81 i = h 94 b <;> by_cases bb : h 79 i = 2 <;> by_cases c : h 95 b = h 80 i <;> by_cases d : h 108 8 < h 88 i <;> by_cases e : h 95 b = -1 <;> by_cases f : h 108 1 = 1 <;> by_cases g : h 96 b = h 82 i <;> simp [a, bb, c, d, e, f, g, key, keyf]
  all_goals (rw [e] at c; simp [c, keyf])
