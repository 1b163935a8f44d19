/-! ===== letter: the class ===== -/
theorem bt_set_id {p : Nat → Bool} {n k : Nat} : (bt_set p id n).testBit k = (decide (k < n) && p k) := by
  rw [bt_set_bit]
  apply Bool.eq_iff_iff.mpr
  rw [List.any_eq_true]
  constructor
  · rintro ⟨x, hx, e⟩
    simp only [id, Bool.and_eq_true, decide_eq_true_eq] at e ⊢
    rw [← e.2]
    exact ⟨List.mem_range.mp hx, e.1⟩
  · intro e
    simp only [Bool.and_eq_true, decide_eq_true_eq] at e
    exact ⟨k, List.mem_range.mpr e.1, by simp [e.2]⟩
theorem bt_set_1k {p : Nat → Bool} {n : Nat} (hn : n ≤ 10) : bt_set p id n < 2 ^ 10 := bt_set_lt n (fun i hi => by simp only [id]; omega)
def lBt (h : nv_Hp) (f d nB : Nat) : Nat := bt_set (lP h f d) id nB
theorem fc_between_sp {h : nv_Hp} {nB f d : Nat} (c1 : h 0 9 = nI nB) (c3 : nB ≤ 10) : fc_bargainsBetween h (nI f) (nI d) = some (nI (lBt h f d nB)) := by
  unfold fc_bargainsBetween
  have key := pu_fold (fun n (u : Int32) x => fc_bargainsBetween_5 h (nI f) (nI d) n u x) nB (fun i u => u = nI (bt_set (lP h f d) id i)) (fun i u => if lP h f d i = true then u ||| nI (2 ^ i) else u) some (fun n i u hi hI => by
    constructor
    · rw [fc_bargainsBetween_5, c1, if_neg (nI_ge hi (by omega)), if_pos (pu_inb (by omega) (by omega)), nI_clamp (by omega), bt_one (by omega), nI_1]
      unfold lP
      by_cases a : h (37 + i) 1 = nI d <;> by_cases b : h (37 + i) 2 = nI f <;> simp [a, b]
    · rw [bt_set, hI]
      cases lP h f d i
      · rfl
      · rw [if_pos rfl, if_pos rfl, bt_or]; rfl) (fun n u _ => by
    rw [fc_bargainsBetween_5, c1, if_pos (nI_le (Nat.le_refl _) (by omega))]) nB 0 nv_fu 0 (by omega) (show nB < 4000 by omega) rfl
  obtain ⟨k1, k2⟩ := key
  rw [nI_0, k2] at k1
  exact k1
theorem fc_already_sp {h : nv_Hp} {nL nK nB nA k1 Bt : Nat} {Q : nv_Hp → Prop} (R : pu_Rm Q h nL nK nB nA) (hBt : Bt < 2 ^ 31) : fc_boundAlready h k1 (nI Bt) = some (nI (bt_set (fun i => Bt.testBit i && lA h nL nK nA (h k1) i) id nB)) := by
  obtain ⟨⟨a1, a2, a3⟩, ⟨b1, b2, b3⟩, ⟨c1, c2, c3⟩, ⟨d1, d2, d3⟩, _⟩ := R.2.1
  unfold fc_boundAlready
  have key := pu_fold (fun n (u : Int32) x => fc_boundAlready_5 h k1 (nI Bt) n u x) nB (fun i u => u = nI (bt_set (fun i => Bt.testBit i && lA h nL nK nA (h k1) i) id i)) (fun i u => if (Bt.testBit i && lA h nL nK nA (h k1) i) = true then u ||| nI (2 ^ i) else u) some (fun n i u hi hI => by
    constructor
    · rw [fc_boundAlready_5, c1, if_neg (nI_ge hi (by omega)), bt_has hBt (by omega), if_pos (pu_inb (by omega) (by omega)), nI_clamp (by omega), fc_bound_R R (pu_sm_r h) hi, Option.bind_some, bt_one (by omega), nI_1]
      unfold lA
      cases Bt.testBit i <;> by_cases b : sB h nL nK nA (h k1) (sH h 0) i = 0 <;> simp [b]
    · rw [bt_set, hI]
      cases (Bt.testBit i && lA h nL nK nA (h k1) i)
      · rfl
      · rw [if_pos rfl, if_pos rfl, bt_or]; rfl) (fun n u _ => by
    rw [fc_boundAlready_5, c1, if_pos (nI_le (Nat.le_refl _) (by omega))]) nB 0 nv_fu 0 (by omega) (show nB < 4000 by omega) rfl
  obtain ⟨q1, q2⟩ := key
  rw [nI_0, q2] at q1
  exact q1
theorem fc_reached_sp {h : nv_Hp} {nB Bt v L l : Nat} (c1 : h 0 9 = nI nB) (c3 : nB ≤ 10) (hBt : Bt < 2 ^ 31) (hl : l < 2) : fc_reachedByLetter h (nI l) (nI Bt) (nI v) (nI L) = some (nI (bt_set (fun i => Bt.testBit i && lR h (h (61 + 3 * l)) v L i) id nB)) := by
  unfold fc_reachedByLetter fc_stretched
  rw [pu_ltE, nI_clamp (by omega), pu_lawc hl]
  have key := pu_fold (fun n (u : Int32) x => fc_reachedByLetter_22 h (nI Bt) (nI v) (nI L + nI L * h (61 + 3 * l) 3 / 100) n u x) nB (fun i u => u = nI (bt_set (fun i => Bt.testBit i && lR h (h (61 + 3 * l)) v L i) id i)) (fun i u => if (Bt.testBit i && lR h (h (61 + 3 * l)) v L i) = true then u ||| nI (2 ^ i) else u) some (fun n i u hi hI => by
    constructor
    · rw [fc_reachedByLetter_22, c1, if_neg (nI_ge hi (by omega)), bt_has hBt (by omega), if_pos (pu_inb (by omega) (by omega)), nI_clamp (by omega), bt_one (by omega), nI_1]
      unfold lR
      cases Bt.testBit i <;> cases fc_hasBit (nI v) (h (37 + i) 4) <;> by_cases b : nI L + nI L * h (61 + 3 * l) 3 / 100 < h (37 + i) 5 <;> simp [b]
    · rw [bt_set, hI]
      cases (Bt.testBit i && lR h (h (61 + 3 * l)) v L i)
      · rfl
      · rw [if_pos rfl, if_pos rfl, bt_or]; rfl) (fun n u _ => by
    rw [fc_reachedByLetter_22, c1, if_pos (nI_le (Nat.le_refl _) (by omega))]) nB 0 nv_fu 0 (by omega) (show nB < 4000 by omega) rfl
  obtain ⟨q1, q2⟩ := key
  rw [nI_0, q2] at q1
  exact q1
theorem lJ_iff {h : nv_Hp} {nL nK nB nA f d S v L : Nat} {w : Nat → Int32} (c3 : nB ≤ 10) (hS : S < 2 ^ nB) (sub : ∀ k, S.testBit k = true → (lBt h f d nB).testBit k = true) :
    (nI (bt_set (fun i => (lBt h f d nB).testBit i && lA h nL nK nA w i) id nB) ||| nI (bt_set (fun i => (lBt h f d nB).testBit i && lR h w v L i) id nB) = nI S) ↔ lJ h nL nK nB nA f d S w v L = true := by
  have bb : ∀ k, k < nB → (lBt h f d nB).testBit k = lP h f d k := fun k hk => by
    unfold lBt; rw [bt_set_id]; simp [hk]
  have l1 : bt_set (fun i => (lBt h f d nB).testBit i && lA h nL nK nA w i) id nB < 2 ^ nB := bt_set_lt nB (fun _ hi => hi)
  have l2 : bt_set (fun i => (lBt h f d nB).testBit i && lR h w v L i) id nB < 2 ^ nB := bt_set_lt nB (fun _ hi => hi)
  have l3 := bt_orlt l1 l2
  have le : 2 ^ nB ≤ 2 ^ 10 := Nat.pow_le_pow_right (by omega) c3
  rw [bt_or, nI_eq (by omega) (by omega)]
  have tb : ∀ k, k < nB → (bt_set (fun i => (lBt h f d nB).testBit i && lA h nL nK nA w i) id nB ||| bt_set (fun i => (lBt h f d nB).testBit i && lR h w v L i) id nB).testBit k = (lP h f d k && (lA h nL nK nA w k || lR h w v L k)) := fun k hk => by
    rw [Nat.testBit_or, bt_set_id, bt_set_id, bb k hk]
    cases lP h f d k <;> simp [hk]
  unfold lJ
  rw [Bool.not_eq_true', List.any_eq_false]
  constructor
  · intro e k hk
    have hk := List.mem_range.mp hk
    have := tb k hk
    rw [e] at this
    unfold lbad
    rw [this]
    cases lP h f d k <;> simp
  · intro e
    apply bt_lt_ext l3 hS
    intro k hk
    rw [tb k hk]
    have := e k (List.mem_range.mpr hk)
    unfold lbad at this
    cases p : lP h f d k
    · rw [Bool.false_and]
      cases q : S.testBit k
      · rfl
      · have := sub k q
        rw [bb k hk, p] at this; cases this
    · rw [p] at this
      rw [Bool.true_and]
      simpa using this
theorem lSS_g : ∀ i : Fin 15, List.getD ([1, 2, 4, 8, 3, 5, 6, 9, 10, 12, 7, 11, 13, 14, 15] : List Int32) i.1 0 = nI (lSS.getD i.1 0) := by decide
theorem fc_search {h : nv_Hp} {nL nK nB nA f d S : Nat} {x4 : Int32} (c1 : h 0 9 = nI nB) (c3 : nB ≤ 10) (hS : S < 2 ^ nB) (sub : ∀ k, S.testBit k = true → (lBt h f d nB).testBit k = true) : fc_letter_101 h (nI S) x4 (nI (lBt h f d nB)) (nI (bt_set (fun i => (lBt h f d nB).testBit i && lA h nL nK nA (h 61) i) id nB)) (nI (bt_set (fun i => (lBt h f d nB).testBit i && lA h nL nK nA (h 64) i) id nB)) nv_fu 0 = some (lres x4 (lJJ h nL nK nB nA f d S)) := by
  have lb : lBt h f d nB < 2 ^ 10 := bt_set_1k c3
  generalize eA : nI (bt_set (fun i => (lBt h f d nB).testBit i && lA h nL nK nA (h 61) i) id nB) = A0
  generalize eC : nI (bt_set (fun i => (lBt h f d nB).testBit i && lA h nL nK nA (h 64) i) id nB) = A1
  have lim : ∀ (i : Nat) (rec : Int32 → Option Int32), i < 15 → fc_letter_113 h (nI S) x4 (nI (lBt h f d nB)) A0 A1 (nI i) rec nv_fu 0 = if (lq (lJJ h nL nK nB nA f d S) (lSS.getD i 0)).isSome = true then some (lans x4 (lJJ h nL nK nB nA f d S) (lSS.getD i 0)) else rec (nI (i + 1)) := by
    intro i rec hi
    have key := hp_find (fun n x (_ : Unit) => fc_letter_113 h (nI S) x4 (nI (lBt h f d nB)) A0 A1 (nI i) rec n x) (fun t => nI (10 * t)) 51 (fun t => lJJ h nL nK nB nA f d S (lSS.getD i 0) (10 * t)) (fun _ => True) (fun t _ => some (lv_ans x4 (lSS.getD i 0) (10 * t))) (fun _ => rec (nI (i + 1))) (fun m t g ht _ => by
      refine ⟨(), trivial, ?_⟩
      have n5 : ¬ (500 : Int32) < nI (10 * t) := nI_nlt (a := 500) (by omega) (by omega)
      have nx : nI (10 * t) + 10 = nI (10 * (t + 1)) := by rw [show (10 : Int32) = nI 10 from rfl, nI_add]; congr 1
      have r0 : fc_reachedByLetter h 0 (nI (lBt h f d nB)) (nI (lSS.getD i 0)) (nI (10 * t)) = _ := fc_reached_sp (l := 0) (v := lSS.getD i 0) (L := 10 * t) c1 c3 (show lBt h f d nB < 2 ^ 31 by omega) (by omega)
      have r1 : fc_reachedByLetter h 1 (nI (lBt h f d nB)) (nI (lSS.getD i 0)) (nI (10 * t)) = _ := fc_reached_sp (l := 1) (v := lSS.getD i 0) (L := 10 * t) c1 c3 (show lBt h f d nB < 2 ^ 31 by omega) (by omega)
      have j0 := lJ_iff (h := h) (nL := nL) (nK := nK) (nA := nA) (v := lSS.getD i 0) (L := 10 * t) (w := h 61) c3 hS sub
      have j1 := lJ_iff (h := h) (nL := nL) (nK := nK) (nA := nA) (v := lSS.getD i 0) (L := 10 * t) (w := h 64) c3 hS sub
      rw [eA] at j0
      rw [eC] at j1
      show fc_letter_113 h (nI S) x4 (nI (lBt h f d nB)) A0 A1 (nI i) rec (m + 1) (nI (10 * t)) = if lJJ h nL nK nB nA f d S (lSS.getD i 0) (10 * t) = true then _ else fc_letter_113 h (nI S) x4 (nI (lBt h f d nB)) A0 A1 (nI i) rec m (nI (10 * (t + 1)))
      rw [fc_letter_113, if_neg n5, if_pos (pu_inb (by omega) (by omega)), nI_clamp (by omega), lSS_g ⟨i, hi⟩, r0, Option.bind_some, r1, Option.bind_some, nx]
      unfold lJJ lv_ans
      by_cases x : lJ h nL nK nB nA f d S (h 61) (lSS.getD i 0) (10 * t) = true
      · rw [if_pos (j0.mpr x), x]
        by_cases y : lJ h nL nK nB nA f d S (h 64) (lSS.getD i 0) (10 * t) = true
        · rw [if_pos (j1.mpr y), y, if_pos (show (true && true) = true from rfl)]
          split <;> rfl
        · rw [if_neg (fun z => y (j1.mp z)), if_neg (fun z => y (by simpa using z))]
      · rw [if_neg (fun z => x (j0.mp z)), if_neg (fun z => x (by
          rw [Bool.and_eq_true] at z; exact z.1))]) (fun m g _ => by
      have y5 : (500 : Int32) < nI (10 * 51) := nI_lt (a := 500) (by omega) (by omega)
      show fc_letter_113 h (nI S) x4 (nI (lBt h f d nB)) A0 A1 (nI i) rec (m + 1) (nI (10 * 51)) = _
      rw [fc_letter_113, if_pos y5, nI_1]) 51 0 nv_fu () (by omega) (show 51 < 4000 by omega) trivial
    obtain ⟨_, _, k2⟩ := key
    have k2 : fc_letter_113 h (nI S) x4 (nI (lBt h f d nB)) A0 A1 (nI i) rec nv_fu 0 = _ := k2
    rw [k2]
    unfold lans lq
    cases (List.range' 0 51).find? (fun t => lJJ h nL nK nB nA f d S (lSS.getD i 0) (10 * t)) with
    | none => rfl
    | some t => rfl
  have key := hp_find (fun n x (_ : Unit) => fc_letter_101 h (nI S) x4 (nI (lBt h f d nB)) A0 A1 n x) nI 15 (fun i => (lq (lJJ h nL nK nB nA f d S) (lSS.getD i 0)).isSome) (fun _ => True) (fun i _ => some (lans x4 (lJJ h nL nK nB nA f d S) (lSS.getD i 0))) (fun _ => some (-1)) (fun m i g hi _ => by
    refine ⟨(), trivial, ?_⟩
    show fc_letter_101 h (nI S) x4 (nI (lBt h f d nB)) A0 A1 (m + 1) (nI i) = if (lq (lJJ h nL nK nB nA f d S) (lSS.getD i 0)).isSome = true then _ else fc_letter_101 h (nI S) x4 (nI (lBt h f d nB)) A0 A1 m (nI (i + 1))
    rw [fc_letter_101, if_neg (show ¬ (15 : Int32) ≤ nI i from nI_ge (b := 15) hi (by omega)), lim i _ hi]) (fun m g _ => by
    show fc_letter_101 h (nI S) x4 (nI (lBt h f d nB)) A0 A1 (m + 1) (nI 15) = _
    rw [fc_letter_101, if_pos (show (15 : Int32) ≤ nI 15 by decide)]) 15 0 nv_fu () (by omega) (show 15 < 4000 by omega) trivial
  obtain ⟨_, _, k2⟩ := key
  have k2 : fc_letter_101 h (nI S) x4 (nI (lBt h f d nB)) A0 A1 nv_fu 0 = _ := k2
  rw [k2]
  unfold lres
  rw [← lSS_ix (fun v => (lq (lJJ h nL nK nB nA f d S) v).isSome)]
  cases (List.range' 0 15).find? (fun i => (lq (lJJ h nL nK nB nA f d S) (lSS.getD i 0)).isSome) <;> rfl
theorem lres_no {J : Nat → Nat → Bool} {x4 : Int32} (h : ∀ v L, J v L = false) : lres x4 J = -1 := by
  have : ∀ v, lq J v = none := fun v => by
    unfold lq
    rw [List.find?_eq_none]
    intro t _
    rw [h]; decide
  unfold lres
  have e : lSS.find? (fun v => (lq J v).isSome) = none := by
    rw [List.find?_eq_none]
    intro v _
    rw [this]; decide
  rw [e]
