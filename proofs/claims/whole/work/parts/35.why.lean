/-! ===== specs: the first leave, why, bits ===== -/
def sp_first (w hd : Nat → Int32) (lv bk : Nat → Nat → Int32) (bg : Nat → Int32) (nL nK : Nat) : Option Nat := (List.range nL).find? (sp_reach w hd lv bk bg nK)
def sp_why0 (fi : Option Nat) (wl : Bool) (bg : Nat → Int32) : Int32 := if bg 2 = bg 1 then 30 else match fi with
  | some i => nI i
  | none => if bg 2 = -1 then 30 else if wl = true then 20 else -1
def sp_bits0 (fi : Option Nat) (wl : Bool) (w : Nat → Int32) (lv : Nat → Nat → Int32) (bg : Nat → Int32) : Int32 := if bg 2 = bg 1 then 1 <<< (bg 1 &&& 31) else match fi with
  | some i => if bg 2 = -1 then (if w 6 = 0 then 1 <<< (bg 1 &&& 31) else if w 6 = 1 then 1 <<< (lv i 1 &&& 31) else (1 <<< (bg 1 &&& 31)) ||| (1 <<< (lv i 1 &&& 31))) else 1 <<< (bg 2 &&& 31)
  | none => if bg 2 = -1 then 1 <<< (bg 1 &&& 31) else if wl = true then 1 <<< (bg 2 &&& 31) else 0
def sp_why (w hd : Nat → Int32) (lv bk : Nat → Nat → Int32) (bg : Nat → Int32) (af : Nat → Nat → Int32) (nL nK nA : Nat) : Int32 := sp_why0 (sp_first w hd lv bk bg nL nK) (sp_well w af bg nA) bg
def sp_bits (w hd : Nat → Int32) (lv bk : Nat → Nat → Int32) (bg : Nat → Int32) (af : Nat → Nat → Int32) (nL nK nA : Nat) : Int32 := sp_bits0 (sp_first w hd lv bk bg nL nK) (sp_well w af bg nA) w lv bg
theorem pu_findc {N : Nat} {p q : Nat → Bool} (h : ∀ i, i < N → p i = q i) : (List.range N).find? p = (List.range N).find? q := by
  have : ∀ (l : List Nat), (∀ i, i ∈ l → i < N) → l.find? p = l.find? q := by
    intro l
    induction l with
    | nil => intro _; rfl
    | cons a t ih =>
      intro ha
      rw [List.find?_cons, List.find?_cons, h a (ha a (List.mem_cons_self ..)), ih (fun i hi => ha i (List.mem_cons_of_mem _ hi))]
  exact this _ (fun i hi => List.mem_range.mp hi)
theorem sp_first_lt {w hd : Nat → Int32} {lv bk : Nat → Nat → Int32} {bg : Nat → Int32} {nL nK i : Nat} (h : sp_first w hd lv bk bg nL nK = some i) : i < nL := List.mem_range.mp (List.mem_of_find?_eq_some h)
theorem sp_first_cg {w w' hd hd' : Nat → Int32} {lv lv' bk bk' : Nat → Nat → Int32} {bg bg' : Nat → Int32} {nL nK : Nat} (hN : nL ≤ 13) (hw : ∀ j, j < 9 → w j = w' j) (hh : ∀ k, k < nK → hd k = hd' k) (hl : ∀ i, i < nL → ∀ f, f < 10 → lv i f = lv' i f) (hb : ∀ k, k < nK → ∀ f, f < 4 → bk k f = bk' k f) (hg : ∀ f, 0 < f → f < 7 → bg f = bg' f) (hr : sp_roots lv nL) : sp_first w hd lv bk bg nL nK = sp_first w' hd' lv' bk' bg' nL nK :=
  pu_findc fun i hi => sp_reach_cg hN hi hw hh hl hb hg hr
theorem sp_why_cg {w w' hd hd' : Nat → Int32} {lv lv' bk bk' af af' : Nat → Nat → Int32} {bg bg' : Nat → Int32} {nL nK nA : Nat} (hN : nL ≤ 13) (hw : ∀ j, j < 9 → w j = w' j) (hh : ∀ k, k < nK → hd k = hd' k) (hl : ∀ i, i < nL → ∀ f, f < 10 → lv i f = lv' i f) (hb : ∀ k, k < nK → ∀ f, f < 4 → bk k f = bk' k f) (ha : ∀ i, i < nA → ∀ f, f < 5 → af i f = af' i f) (hg : ∀ f, f < 7 → bg f = bg' f) (hr : sp_roots lv nL) : sp_why w hd lv bk bg af nL nK nA = sp_why w' hd' lv' bk' bg' af' nL nK nA := by
  unfold sp_why sp_why0
  rw [sp_first_cg hN hw hh hl hb (fun f _ h2 => hg f h2) hr, sp_well_cg hw ha hg, hg 1 (by omega), hg 2 (by omega)]
theorem sp_bits_cg {w w' hd hd' : Nat → Int32} {lv lv' bk bk' af af' : Nat → Nat → Int32} {bg bg' : Nat → Int32} {nL nK nA : Nat} (hN : nL ≤ 13) (hw : ∀ j, j < 9 → w j = w' j) (hh : ∀ k, k < nK → hd k = hd' k) (hl : ∀ i, i < nL → ∀ f, f < 10 → lv i f = lv' i f) (hb : ∀ k, k < nK → ∀ f, f < 4 → bk k f = bk' k f) (ha : ∀ i, i < nA → ∀ f, f < 5 → af i f = af' i f) (hg : ∀ f, f < 7 → bg f = bg' f) (hr : sp_roots lv nL) : sp_bits w hd lv bk bg af nL nK nA = sp_bits w' hd' lv' bk' bg' af' nL nK nA := by
  unfold sp_bits sp_bits0
  rw [sp_first_cg hN hw hh hl hb (fun f _ h2 => hg f h2) hr, sp_well_cg hw ha hg, hg 1 (by omega), hg 2 (by omega), hw 6 (by omega)]
  cases e : sp_first w' hd' lv' bk' bg' nL nK with
  | none => rfl
  | some i => simp only [hl i (sp_first_lt e) 1 (by omega)]
theorem fc_why_sp {h : nv_Hp} {k1 k2 nL nK nA : Nat} {way : Int32} (hL : h 0 7 = nI nL) (hnL : nL ≤ 12) (hK : h 0 8 = nI nK) (hn : nK ≤ 12) (hA : h 0 10 = nI nA) (hnA : nA ≤ 12) (hr : sp_roots (fun i => h (13 + i)) nL) : fc_reasonIn h k1 k2 way = some (sp_why (h k1) (fun k => fc_hearingDay h (nI k) way) (fun j => h (13 + j)) (fun k => h (25 + k)) (h k2) (fun i => h (47 + i)) nL nK nA) := by
  unfold fc_reasonIn sp_why sp_why0
  by_cases a : h k2 2 = h k2 1
  · rw [if_pos a, if_pos a]
  · rw [if_neg a, if_neg a]
    have key := pu_find (fc_reasonIn_17 h k1 k2 way) nL (sp_reach (h k1) (fun k => fc_hearingDay h (nI k) way) (fun j => h (13 + j)) (fun k => h (25 + k)) (h k2) nK) (fun i => some (nI i)) (some (if h k2 2 = -1 then 30 else if sp_well (h k1) (fun i => h (47 + i)) (h k2) nA = true then 20 else -1)) (fun n i hi => by
      rw [fc_reasonIn_17, hL, if_neg (nI_ge hi (by omega)), if_pos (pu_inb (by omega) (by omega)), fc_reach_sp hL hnL hK hn hr hi, nI_1]; rfl) (fun n => by
      rw [fc_reasonIn_17, hL, if_pos (nI_le (Nat.le_refl _) (by omega)), fc_well_sp hA hnA]
      by_cases b : h k2 2 = -1
      · rw [if_pos b, if_pos b]
      · rw [if_neg b, if_neg b]
        show (if _ then _ else _) = _
        split <;> rfl) nL 0 nv_fu (by omega) (show nL < 4000 by omega)
    rw [← nI_0, key, ← List.range_eq_range']
    unfold sp_first
    cases (List.range nL).find? (sp_reach (h k1) (fun k => fc_hearingDay h (nI k) way) (fun j => h (13 + j)) (fun k => h (25 + k)) (h k2) nK) <;> rfl
theorem fc_bits_sp {h : nv_Hp} {k1 k2 nL nK nA : Nat} {hd : Nat → Int32} {bk : Nat → Nat → Int32} (hL : h 0 7 = nI nL) (hnL : nL ≤ 12) : fc_bitsOfReason h k1 k2 (sp_why (h k1) hd (fun j => h (13 + j)) bk (h k2) (fun i => h (47 + i)) nL nK nA) = some (sp_bits (h k1) hd (fun j => h (13 + j)) bk (h k2) (fun i => h (47 + i)) nL nK nA) := by
  unfold sp_why sp_bits sp_why0 sp_bits0 fc_bitsOfReason
  by_cases a : h k2 2 = h k2 1
  · rw [if_pos a, if_pos a, if_neg (by decide), if_pos rfl]
  · rw [if_neg a, if_neg a]
    cases e : sp_first (h k1) hd (fun j => h (13 + j)) bk (h k2) nL nK with
    | some i =>
      have hi := sp_first_lt e
      have g : fc_isLeave h (nI i) = true := by unfold fc_isLeave; rw [hL]; exact pu_ido (by omega) hi
      have n30 : ¬ nI i = 30 := fun q => by have := (nI_eq (a := i) (b := 30) (by omega) (by omega)).mp q; omega
      show (if nI i = -1 then _ else _) = _
      rw [if_neg (pu_m1 (by omega)), if_neg n30, g, if_pos rfl, if_pos (pu_inb (by omega) (by omega)), nI_clamp (by omega)]
      by_cases b : h k2 2 = -1
      · simp only [b, if_true]
        show fc_bitsOfReason_58 h k1 k2 _ = _
        unfold fc_bitsOfReason_58 nv_lt
        rw [Int32.or_comm]
        by_cases c : h k1 6 = 0
        · simp only [c, if_true]
        · by_cases d : h k1 6 = 1
          · simp only [d, if_true]; rfl
          · simp only [c, d, if_false]
      · simp only [b, if_false]
    | none =>
      show (if (if h k2 2 = -1 then (30 : Int32) else if sp_well (h k1) (fun i => h (47 + i)) (h k2) nA = true then 20 else -1) = -1 then _ else _) = some (if h k2 2 = -1 then _ else if sp_well (h k1) (fun i => h (47 + i)) (h k2) nA = true then _ else _)
      by_cases b : h k2 2 = -1
      · simp only [b, if_true]
        rw [if_neg (by decide)]
      · cases sp_well (h k1) (fun i => h (47 + i)) (h k2) nA
        · simp only [b, if_false, Bool.false_eq_true, if_true]
        · simp only [b, if_false, if_true]
          rw [if_neg (by decide), if_neg (by decide)]
theorem fc_bound_sp {h : nv_Hp} {k1 k2 nL nK nA : Nat} {way : Int32} (hL : h 0 7 = nI nL) (hnL : nL ≤ 12) (hK : h 0 8 = nI nK) (hn : nK ≤ 12) (hA : h 0 10 = nI nA) (hnA : nA ≤ 12) (hr : sp_roots (fun i => h (13 + i)) nL) : fc_boundBits h k1 k2 way = some (sp_bits (h k1) (fun k => fc_hearingDay h (nI k) way) (fun j => h (13 + j)) (fun k => h (25 + k)) (h k2) (fun i => h (47 + i)) nL nK nA) := by
  unfold fc_boundBits
  rw [fc_why_sp hL hnL hK hn hA hnA hr, Option.bind_some, fc_bits_sp hL hnL]
  rfl
theorem pu_upup (h : nv_Hp) (k j : Nat) (v u : Int32) : nv_up (nv_up h k j v) k j u = nv_up h k j u := by
  funext a b
  unfold nv_up
  split <;> rfl
theorem pm_first_sp {h : nv_Hp} {nL nK b : Nat} (hL : h 73 6 = nI nL) (hN : nL ≤ 13) (hK : h 73 17 = nI nK) (hn : nK ≤ 12) (hb : b < 10) (hw : h 108 0 = 0 ∨ h 108 0 = 1 ∨ h 108 0 = 2) (hr : sp_roots (fun i f => h (79 + f) i) nL) : pm_firstLeave h (nI b) = match sp_first (h 108) (h 93) (fun j f => h (79 + f) j) (fun k f => h (89 + f) k) (pu_bgm h b) nL nK with | some i => some (nI i) | none => some (-1) := by
  unfold pm_firstLeave
  have key := pu_find (pm_firstLeave_2 h (nI b)) nL (sp_reach (h 108) (h 93) (fun j f => h (79 + f) j) (fun k f => h (89 + f) k) (pu_bgm h b) nK) (fun i => some (nI i)) (some (-1)) (fun n i hi => by
    rw [pm_firstLeave_2, hL, if_neg (nI_ge hi (by omega)), if_pos (pu_inb (by omega) (by omega)), pm_reach_sp hN hK hn hb hw hr hi, nI_1, sp_reach_cg (bg' := pu_bgm h b) hN hi (fun _ _ => rfl) (fun _ _ => rfl) (fun _ _ _ _ => rfl) (fun _ _ _ _ => rfl) (fun f h0 _ => by unfold pu_bgm; rw [if_neg (by omega)]) hr]; rfl) (fun n => by
    rw [pm_firstLeave_2, hL, if_pos (nI_le (Nat.le_refl _) (by omega))]) nL 0 nv_fu (by omega) (show nL < 4000 by omega)
  rw [← nI_0, key, ← List.range_eq_range']
  rfl
theorem pm_bound_sp {h : nv_Hp} {nL nK nA b : Nat} (hL : h 73 6 = nI nL) (hN : nL ≤ 13) (hK : h 73 17 = nI nK) (hn : nK ≤ 12) (hA : h 73 30 = nI nA) (hnA : nA ≤ 12) (hb : b < 10) (hw : h 108 0 = 0 ∨ h 108 0 = 1 ∨ h 108 0 = 2) (hr : sp_roots (fun i f => h (79 + f) i) nL) :
    pm_boundNow h (nI b) = some (sp_bits (h 108) (h 93) (fun j f => h (79 + f) j) (fun k f => h (89 + f) k) (pu_bgm h b) (fun i f => h (100 + f) i) nL nK nA, nv_up h 73 41 (sp_why (h 108) (h 93) (fun j f => h (79 + f) j) (fun k f => h (89 + f) k) (pu_bgm h b) (fun i f => h (100 + f) i) nL nK nA)) := by
  have u73 : ∀ j, j ≠ 41 → nv_up h 73 41 30 73 j = h 73 j := fun j hj => nv_up_j h 30 hj
  have uk : ∀ k, k ≠ 73 → nv_up h 73 41 30 k = h k := fun k hk => pu_up_c hk
  have u79 : (fun j f => nv_up h 73 41 30 (79 + f) j) = fun j f => h (79 + f) j := by funext j f; rw [uk _ (by omega)]
  have u89 : (fun j f => nv_up h 73 41 30 (89 + f) j) = fun j f => h (89 + f) j := by funext j f; rw [uk _ (by omega)]
  have u100 : (fun j f => nv_up h 73 41 30 (100 + f) j) = fun j f => h (100 + f) j := by funext j f; rw [uk _ (by omega)]
  have ubg : pu_bgm (nv_up h 73 41 30) b = pu_bgm h b := by funext f; unfold pu_bgm; rw [uk _ (by omega)]
  have kf := pm_first_sp (h := nv_up h 73 41 30) (nL := nL) (nK := nK) (b := b) (by rw [u73 _ (by decide)]; exact hL) hN (by rw [u73 _ (by decide)]; exact hK) hn hb (by rw [uk _ (by decide)]; exact hw) (by rw [u79]; exact hr)
  have kw := pm_well_sp (h := nv_up h 73 41 30) (nA := nA) (b := b) (by rw [u73 _ (by decide)]; exact hA) hnA hb
  rw [u79, u89, ubg, uk _ (by decide), uk _ (by decide)] at kf
  rw [u100, ubg, uk _ (by decide)] at kw
  unfold pm_boundNow nv_lt
  simp only [nI_clamp (show b < 2 ^ 31 by omega), uk 95 (by decide), uk 94 (by decide), kf, kw]
  unfold sp_bits sp_why sp_bits0 sp_why0
  have b1 : pu_bgm h b 1 = h 94 b := rfl
  have b2 : pu_bgm h b 2 = h 95 b := rfl
  rw [b1, b2]
  by_cases a : h 95 b = h 94 b
  · simp only [a, if_true]
  · simp only [a, if_false]
    cases e : sp_first (h 108) (h 93) (fun j f => h (79 + f) j) (fun k f => h (89 + f) k) (pu_bgm h b) nL nK with
    | some i =>
      have hi := sp_first_lt e
      simp only [Option.bind_some]
      by_cases c : h 95 b = -1
      · simp only [c, if_true]
        rw [if_neg (pu_m1 (by omega)), if_pos (pu_inb (by omega) (by omega)), pu_upup]
        simp only [nI_clamp (show i < 2 ^ 31 by omega), pu_up_c (show 80 ≠ 73 by decide), pu_up_c (show 108 ≠ 73 by decide)]
        split
        · rfl
        · split <;> rfl
      · simp only [c, if_false]
        rw [if_neg (pu_m1 (by omega))]
        simp only [Option.bind_some]
        unfold pm_boundNow_72 nv_lt
        simp only [pu_upup, nv_up_s]
        rw [if_neg (pu_m1 (by omega)), pu_up_c (by decide), nI_clamp (by omega)]
    | none =>
      simp only [Option.bind_some]
      by_cases c : h 95 b = -1
      · simp only [c, if_true]
      · simp only [c, if_false, if_true]
        unfold pm_boundNow_72 nv_lt
        cases sp_well (h 108) (fun i f => h (100 + f) i) (pu_bgm h b) nA
        · simp only [Option.bind_some, Bool.false_eq_true, if_false, pu_upup, nv_up_s, if_true]
        · simp only [Option.bind_some, if_true, pu_upup, nv_up_s]
          rw [if_neg (by decide), pu_up_c (by decide), nI_clamp (by omega)]
