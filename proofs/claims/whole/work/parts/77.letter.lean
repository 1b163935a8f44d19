/-! ===== letter: the search ===== -/
theorem hp_find {α σ : Type} (F : Nat → Int32 → σ → Option α) (ix : Nat → Int32) (N : Nat) (p : Nat → Bool) (fr : σ → Prop) (f : Nat → σ → Option α) (K : σ → Option α)
    (hs : ∀ n i g, i < N → fr g → ∃ g', fr g' ∧ F (n + 1) (ix i) g = if p i = true then f i g' else F n (ix (i + 1)) g') (hx : ∀ n g, fr g → F (n + 1) (ix N) g = K g) :
    ∀ k i n g, i + k = N → k < n → fr g → ∃ g', fr g' ∧ F n (ix i) g = match (List.range' i k).find? p with | some j => f j g' | none => K g' := by
  intro k
  induction k with
  | zero =>
    intro i n g hi hn hg
    obtain ⟨n, rfl⟩ : ∃ m, n = m + 1 := ⟨n - 1, by omega⟩
    have : i = N := by omega
    subst this
    exact ⟨g, hg, hx n g hg⟩
  | succ k ih =>
    intro i n g hi hn hg
    obtain ⟨n, rfl⟩ : ∃ m, n = m + 1 := ⟨n - 1, by omega⟩
    obtain ⟨g', h1, h2⟩ := hs n i g (by omega) hg
    rw [h2, List.range'_succ, List.find?_cons]
    cases e : p i
    · rw [if_neg (by decide)]
      exact ih (i + 1) n g' (by omega) (by omega) h1
    · rw [if_pos rfl]
      exact ⟨g', h1, rfl⟩
/-- the least limit (in tens) with which sorts v do -/
def lq (J : Nat → Nat → Bool) (v : Nat) : Option Nat := (List.range' 0 51).find? (fun t => J v (10 * t))
def lv_ans (x4 : Int32) (v L : Nat) : Int32 := if x4 = 0 then nI v else nI L
def lans (x4 : Int32) (J : Nat → Nat → Bool) (v : Nat) : Int32 := lv_ans x4 v (10 * (lq J v).getD 0)
def lSS : List Nat := [1, 2, 4, 8, 3, 5, 6, 9, 10, 12, 7, 11, 13, 14, 15]
def lres (x4 : Int32) (J : Nat → Nat → Bool) : Int32 := match lSS.find? (fun v => (lq J v).isSome) with
  | some v => lans x4 J v
  | none => -1
theorem lSS_ix (Z : Nat → Bool) : ((List.range' 0 15).find? (fun i => Z (lSS.getD i 0))).map (fun i => lSS.getD i 0) = lSS.find? Z := by
  show (List.find? (fun i => Z (lSS.getD i 0)) [0, 1, 2, 3, 4, 5, 6, 7, 8, 9, 10, 11, 12, 13, 14]).map (fun i => lSS.getD i 0) = List.find? Z [1, 2, 4, 8, 3, 5, 6, 9, 10, 12, 7, 11, 13, 14, 15]
  simp only [List.find?_cons, List.find?_nil]
  rw [show lSS.getD 0 0 = 1 from rfl]
  rw [show lSS.getD 1 0 = 2 from rfl]
  rw [show lSS.getD 2 0 = 4 from rfl]
  rw [show lSS.getD 3 0 = 8 from rfl]
  rw [show lSS.getD 4 0 = 3 from rfl]
  rw [show lSS.getD 5 0 = 5 from rfl]
  rw [show lSS.getD 6 0 = 6 from rfl]
  rw [show lSS.getD 7 0 = 9 from rfl]
  rw [show lSS.getD 8 0 = 10 from rfl]
  rw [show lSS.getD 9 0 = 12 from rfl]
  rw [show lSS.getD 10 0 = 7 from rfl]
  rw [show lSS.getD 11 0 = 11 from rfl]
  rw [show lSS.getD 12 0 = 13 from rfl]
  rw [show lSS.getD 13 0 = 14 from rfl]
  rw [show lSS.getD 14 0 = 15 from rfl]
  cases Z 1 with
  | true => rfl
  | false =>
    simp only []
    cases Z 2 with
    | true => rfl
    | false =>
      simp only []
      cases Z 4 with
      | true => rfl
      | false =>
        simp only []
        cases Z 8 with
        | true => rfl
        | false =>
          simp only []
          cases Z 3 with
          | true => rfl
          | false =>
            simp only []
            cases Z 5 with
            | true => rfl
            | false =>
              simp only []
              cases Z 6 with
              | true => rfl
              | false =>
                simp only []
                cases Z 9 with
                | true => rfl
                | false =>
                  simp only []
                  cases Z 10 with
                  | true => rfl
                  | false =>
                    simp only []
                    cases Z 12 with
                    | true => rfl
                    | false =>
                      simp only []
                      cases Z 7 with
                      | true => rfl
                      | false =>
                        simp only []
                        cases Z 11 with
                        | true => rfl
                        | false =>
                          simp only []
                          cases Z 13 with
                          | true => rfl
                          | false =>
                            simp only []
                            cases Z 14 with
                            | true => rfl
                            | false =>
                              simp only []
                              cases Z 15 <;> rfl
theorem nest_find {c : Nat → Nat → Bool} {l : List Nat} {Z : Nat → Bool} : ∀ ms : List Nat, (match ms.find? (fun m => (l.find? (fun v => c v m && Z v)).isSome) with | some m => l.find? (fun v => c v m && Z v) | none => none) = (ms.flatMap (fun m => l.filter (fun v => c v m))).find? Z
  | [] => rfl
  | m :: ms => by
    have ih := nest_find (c := c) (l := l) (Z := Z) ms
    have ef : (fun a => decide (c a m = true ∧ Z a = true)) = (fun v => c v m && Z v) := by
      funext a
      cases c a m <;> cases Z a <;> rfl
    rw [List.find?_cons, List.flatMap_cons, List.find?_append, ← ih, List.find?_filter, ef]
    cases e : l.find? (fun v => c v m && Z v) with
    | none =>
      simp only [Option.isSome_none, Option.none_or]
    | some v =>
      simp only [Option.isSome_some, e, Option.some_or]
theorem lSS_flat : ([1, 2, 3, 4] : List Nat).flatMap (fun m => (List.range' 1 15).filter (fun v => decide (bt_pc 9 v = m))) = lSS := by decide +kernel
theorem lSS_nest (Z : Nat → Bool) : (match (List.range' 1 4).find? (fun m => ((List.range' 1 15).find? (fun v => decide (bt_pc 9 v = m) && Z v)).isSome) with | some m => (List.range' 1 15).find? (fun v => decide (bt_pc 9 v = m) && Z v) | none => none) = lSS.find? Z := by
  rw [← lSS_flat]
  exact nest_find [1, 2, 3, 4]
/-! the reference's search -/
theorem lU_lay {h0 g : nv_Hp} {nL nK nB nA f d v L : Nat} {Q : nv_Hp → Prop} (R : pu_Rm Q h0 nL nK nB nA) (U : lU h0 nL g) : ∃ g', pm_lays g 0 (nI f) (nI d) 0 (nI v) (nI L) 0 99 = some g' ∧ lD h0 nL f d v L g' := by
  have a3 := R.2.1.1.2.2
  obtain ⟨g', p1, p2, p3, p4, p5, y0, y1, y2, y3, y4, y5, y6, y7, y8, y9⟩ := pm_lays_sp (h := g) (n := nL) U.2 (by omega) 0 (nI f) (nI d) 0 (nI v) (nI L) 0 99 (nI f) (-1) 0 (Or.inr ⟨by decide, rfl, rfl, rfl⟩)
  refine ⟨g', p1, fun k j a b c => ?_, p4, fun t ht => ?_⟩
  · by_cases e : k = 73
    · subst e
      rw [p3 j (fun z => c ⟨rfl, z⟩)]; exact U.1 73 j a b c
    · by_cases e2 : 79 ≤ k ∧ k ≤ 88
      · rw [p5 k j e (fun z => b ⟨e2.1, e2.2, z⟩)]; exact U.1 k j a b c
      · rw [p2 k e2 e]; exact U.1 k j a b c
  · unfold lx
    rw [if_pos rfl]
    have : t = 0 ∨ t = 1 ∨ t = 2 ∨ t = 3 ∨ t = 4 ∨ t = 5 ∨ t = 6 ∨ t = 7 ∨ t = 8 ∨ t = 9 := by omega
    rcases this with rfl | rfl | rfl | rfl | rfl | rfl | rfl | rfl | rfl | rfl
    · rw [y0]; rfl
    · rw [y1]; rfl
    · rw [y2]; rfl
    · rw [y3]; rfl
    · rw [y4]; rfl
    · rw [y5]; rfl
    · rw [y6]; rfl
    · rw [y7]; rfl
    · rw [y8]; rfl
    · rw [y9]; rfl
theorem lD_un {h0 g : nv_Hp} {nL f d v L : Nat} (D : lD h0 nL f d v L g) : lU h0 nL (nv_up g 73 6 (g 73 6 - 1)) := by
  refine ⟨fun k j a b c => ?_, ?_⟩
  · rw [pu_up_ne]
    · exact D.1 k j a b c
    · by_cases z : k = 73
      · exact Or.inr (fun y => c ⟨z, y⟩)
      · exact Or.inl z
  · rw [nv_up_s, D.2.1, nI_pred]
def lJJ (g : nv_Hp) (nL nK nB nA f d S v L : Nat) : Bool := lJ g nL nK nB nA f d S (g 61) v L && lJ g nL nK nB nA f d S (g 64) v L
theorem pm_lim {h0 g : nv_Hp} {nL nK nB nA f d v S many : Nat} {Q : nv_Hp → Prop} {x4 : Int32} {rec : Int32 → nv_Hp → Option (Int32 × nv_Hp)} (R : pu_Rm Q h0 nL nK nB nA) (hf : f < 8) (hd : d < 8) (n : f ≠ d) (hS : S < 2 ^ 31) (hv : v < 16) (hp : bt_pc 9 v = many) (U : lU h0 nL g) : ∃ g', lU h0 nL g' ∧ pm_letter_62 (nI f) (nI d) (nI S) x4 (nI many) (nI v) rec nv_fu 0 g = if (lq (lJJ h0 nL nK nB nA f d S) v).isSome = true then some (lans x4 (lJJ h0 nL nK nB nA f d S) v, g') else rec (nI (v + 1)) g' := by
  have key := hp_find (pm_letter_62 (nI f) (nI d) (nI S) x4 (nI many) (nI v) rec) (fun t => nI (10 * t)) 51 (fun t => lJJ h0 nL nK nB nA f d S v (10 * t)) (lU h0 nL) (fun t g' => some (lv_ans x4 v (10 * t), g')) (fun g' => rec (nI (v + 1)) g') (fun m t g ht U => by
    obtain ⟨g1, p1, D1⟩ := lU_lay (f := f) (d := d) (v := v) (L := 10 * t) R U
    obtain ⟨g2, p2, D2⟩ := pm_just_sp (S := S) (l := 0) R hf hd n hS (by omega) D1
    obtain ⟨g3, p3, D3⟩ := pm_just_sp (S := S) (l := 1) R hf hd n hS (by omega) D2
    have e0 : (0 : Int32) = nI 0 := rfl
    have p2' : pm_isJust g1 0 (nI f) (nI d) (nI S) = some (lJ h0 nL nK nB nA f d S (h0 61) v (10 * t), g2) := p2
    have p3' : pm_isJust g2 1 (nI f) (nI d) (nI S) = some (lJ h0 nL nK nB nA f d S (h0 64) v (10 * t), g3) := p3
    have n5 : ¬ (500 : Int32) < nI (10 * t) := nI_nlt (a := 500) (by omega) (by omega)
    have step : pm_letter_62 (nI f) (nI d) (nI S) x4 (nI many) (nI v) rec (m + 1) (nI (10 * t)) g = (Option.bind ((if lJ h0 nL nK nB nA f d S (h0 61) v (10 * t) = true then (if lJ h0 nL nK nB nA f d S (h0 64) v (10 * t) = true then some (true, g3) else some (false, g3)) else some (false, g2)) : Option (Bool × nv_Hp)) fun u7 => pm_letter_122 u7.2 (nI f) (nI d) (nI S) x4 (nI many) (nI v) (nI (10 * t)) u7.1 (pm_letter_62 (nI f) (nI d) (nI S) x4 (nI many) (nI v) rec m)) := by
      rw [pm_letter_62, if_neg n5, pm_ones_sp g (show v < 512 by omega), Option.bind_some, if_pos (by rw [hp]), p1, Option.bind_some, p2', Option.bind_some]
      simp only [p3', Option.bind_some]
    have nx : nI (10 * t) + 10 = nI (10 * (t + 1)) := by rw [show (10 : Int32) = nI 10 from rfl, nI_add]; congr 1
    rw [step]
    unfold lJJ
    cases lJ h0 nL nK nB nA f d S (h0 61) v (10 * t)
    · refine ⟨_, lD_un D2, ?_⟩
      rw [if_neg (by decide), Option.bind_some]
      unfold pm_letter_122
      rw [pu_ltE, if_neg (show ¬ (false = true) by decide), nx]
      rfl
    · rw [if_pos rfl]
      cases lJ h0 nL nK nB nA f d S (h0 64) v (10 * t)
      · refine ⟨_, lD_un D3, ?_⟩
        rw [if_neg (by decide), Option.bind_some]
        unfold pm_letter_122
        rw [pu_ltE, if_neg (show ¬ (false = true) by decide), nx]
        rfl
      · refine ⟨_, lD_un D3, ?_⟩
        rw [if_pos rfl, Option.bind_some]
        unfold pm_letter_122 lv_ans
        rw [pu_ltE, if_pos rfl]
        simp only [Bool.and_self, if_true]
        split <;> rfl) (fun m g U => by
    have y5 : (500 : Int32) < nI (10 * 51) := nI_lt (a := 500) (by omega) (by omega)
    rw [pm_letter_62, if_pos y5, nI_1]) 51 0 nv_fu g (by omega) (show 51 < 4000 by omega) U
  obtain ⟨g', k1, k2⟩ := key
  refine ⟨g', k1, ?_⟩
  have k2 : pm_letter_62 (nI f) (nI d) (nI S) x4 (nI many) (nI v) rec nv_fu 0 g = _ := k2
  rw [k2]
  unfold lans lq
  cases (List.range' 0 51).find? (fun t => lJJ h0 nL nK nB nA f d S v (10 * t)) with
  | none => rfl
  | some t => rfl
theorem pm_lim_no {g : nv_Hp} {v many : Nat} {x1 x2 x3 x4 : Int32} {rec : Int32 → nv_Hp → Option (Int32 × nv_Hp)} (hv : v < 16) (hm : many < 2 ^ 31) (hp : ¬ bt_pc 9 v = many) : pm_letter_62 x1 x2 x3 x4 (nI many) (nI v) rec nv_fu 0 g = rec (nI (v + 1)) g := by
  have l := bt_pc_le 9 v
  obtain ⟨m, em⟩ : ∃ m, nv_fu = m + 1 := ⟨3999, rfl⟩
  rw [em, pm_letter_62, if_neg (by decide), pm_ones_sp g (show v < 512 by omega), Option.bind_some, if_neg (fun z => hp ((nI_eq (by omega) hm).mp z)), nI_1]
theorem pm_search {h0 g : nv_Hp} {nL nK nB nA f d S : Nat} {Q : nv_Hp → Prop} {x4 : Int32} (R : pu_Rm Q h0 nL nK nB nA) (hf : f < 8) (hd : d < 8) (n : f ≠ d) (hS : S < 2 ^ 31) (U : lU h0 nL g) : ∃ g', lU h0 nL g' ∧ pm_letter_43 (nI f) (nI d) (nI S) x4 nv_fu 1 g = some (lres x4 (lJJ h0 nL nK nB nA f d S), g') := by
  have inner : ∀ (many : Nat) (rec : Int32 → nv_Hp → Option (Int32 × nv_Hp)) (g : nv_Hp), many < 2 ^ 31 → lU h0 nL g → ∃ g', lU h0 nL g' ∧ pm_letter_52 (nI f) (nI d) (nI S) x4 (nI many) rec nv_fu 1 g = match (List.range' 1 15).find? (fun v => decide (bt_pc 9 v = many) && (lq (lJJ h0 nL nK nB nA f d S) v).isSome) with | some v => some (lans x4 (lJJ h0 nL nK nB nA f d S) v, g') | none => rec (nI (many + 1)) g' := by
    intro many rec g hm U
    exact hp_find (pm_letter_52 (nI f) (nI d) (nI S) x4 (nI many) rec) nI 16 (fun v => decide (bt_pc 9 v = many) && (lq (lJJ h0 nL nK nB nA f d S) v).isSome) (lU h0 nL) (fun v g' => some (lans x4 (lJJ h0 nL nK nB nA f d S) v, g')) (fun g' => rec (nI (many + 1)) g') (fun m v g hv U => by
      rw [pm_letter_52, if_neg (show ¬ (16 : Int32) ≤ nI v from nI_ge (b := 16) hv (by omega))]
      by_cases hp : bt_pc 9 v = many
      · obtain ⟨g', k1, k2⟩ := pm_lim (x4 := x4) (rec := pm_letter_52 (nI f) (nI d) (nI S) x4 (nI many) rec m) R hf hd n hS hv hp U
        refine ⟨g', k1, ?_⟩
        rw [k2]
        simp only [hp, decide_true, Bool.true_and]
      · refine ⟨g, U, ?_⟩
        rw [pm_lim_no hv hm hp]
        simp only [hp, decide_false, Bool.false_and, Bool.false_eq_true, if_false]) (fun m g _ => by
      rw [pm_letter_52, if_pos (show (16 : Int32) ≤ nI 16 from nI_le (a := 16) (b := 16) (by omega) (by omega)), nI_1]) 15 1 nv_fu g (by omega) (show 15 < 4000 by omega) U
  have outer := hp_find (pm_letter_43 (nI f) (nI d) (nI S) x4) nI 5 (fun many => ((List.range' 1 15).find? (fun v => decide (bt_pc 9 v = many) && (lq (lJJ h0 nL nK nB nA f d S) v).isSome)).isSome) (lU h0 nL) (fun many g' => some (lans x4 (lJJ h0 nL nK nB nA f d S) (((List.range' 1 15).find? (fun v => decide (bt_pc 9 v = many) && (lq (lJJ h0 nL nK nB nA f d S) v).isSome)).getD 0), g')) (fun g' => some (-1, g')) (fun m many g hm U => by
    obtain ⟨g', k1, k2⟩ := inner many (pm_letter_43 (nI f) (nI d) (nI S) x4 m) g (by omega) U
    refine ⟨g', k1, ?_⟩
    rw [pm_letter_43, if_neg (show ¬ (5 : Int32) ≤ nI many from nI_ge (b := 5) hm (by omega)), k2]
    cases (List.range' 1 15).find? (fun v => decide (bt_pc 9 v = many) && (lq (lJJ h0 nL nK nB nA f d S) v).isSome) <;> rfl) (fun m g _ => by
    rw [pm_letter_43, if_pos (show (5 : Int32) ≤ nI 5 by decide)]) 4 1 nv_fu g (by omega) (show 4 < 4000 by omega) U
  obtain ⟨g', k1, k2⟩ := outer
  refine ⟨g', k1, ?_⟩
  have k2 : pm_letter_43 (nI f) (nI d) (nI S) x4 nv_fu 1 g = _ := k2
  rw [k2]
  unfold lres
  rw [← lSS_nest]
  cases e1 : (List.range' 1 4).find? (fun many => ((List.range' 1 15).find? (fun v => decide (bt_pc 9 v = many) && (lq (lJJ h0 nL nK nB nA f d S) v).isSome)).isSome) with
  | none => rfl
  | some m =>
    have e3 := List.find?_some e1
    simp only []
    cases e2 : (List.range' 1 15).find? (fun v => decide (bt_pc 9 v = m) && (lq (lJJ h0 nL nK nB nA f d S) v).isSome) with
    | some v => rfl
    | none => rw [e2] at e3; cases e3
