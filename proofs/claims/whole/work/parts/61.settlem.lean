/-! ===== settling: the reference's loop over persons ===== -/
theorem pm_110_loop {h0 : nv_Hp} {nL nK nB nA b d o du : Nat} {w hd : Nat → Int32} {x7 : Int32} {Q : nv_Hp → Prop} (R : pu_Rm Q h0 nL nK nB nA) (hb : b < nB) (hB : pu_B3 (w 0)) (hd8 : d < 8) (ho : o < 8) (eo : h0 (37 + b) 3 = nI o) (hdu : du ≤ 1100) (hA : ∀ x, x < 8 → st_A h0 nL nK nA w hd b x = 0 ∨ st_A h0 nL nK nA w hd b x = nI du) :
    ∀ (k i n q B : Nat) (P : Nat → Int32) (h : nv_Hp), i + k = 8 → k < n → q ≤ du → B + 1100 * k < 2 ^ 30 → st_ok P B → pu_sm h0 h → (∀ j, j < 9 → h 108 j = w j) → (∀ k, k < nK → h 93 k = hd k) → (∀ z, z < 8 → h 109 z = P z) →
    ∃ q' P' h', q' ≤ du ∧ (List.range' i k).foldl (fun s x => st_one (st_A h0 nL nK nA w hd b) d o (nI du) x s) (nI q, P) = (nI q', P') ∧ st_ok P' (B + 1100 * k) ∧ pm_settles_110 (nI b) (nI d) x7 n (nI (du - q)) (nI q) (nI i) h = pm_settles_110 (nI b) (nI d) x7 (n - k) (nI (du - q')) (nI q') (nI 8) h' ∧ (∀ z, z < 8 → h' 109 z = P' z) ∧ (∀ k, k ≠ 109 → k ≠ 73 → h' k = h k) ∧ ∀ j, j ≠ 41 → h' 73 j = h 73 j := by
  intro k
  induction k with
  | zero =>
    intro i n q B P h hi hn hq hBB hP s hw hh h9
    have : i = 8 := by omega
    subst this
    exact ⟨q, P, h, hq, rfl, hP, rfl, h9, fun _ _ _ => rfl, fun _ _ => rfl⟩
  | succ k ih =>
    intro i n q B P h hi hn hq hBB hP s hw hh h9
    obtain ⟨n, rfl⟩ : ∃ m, n = m + 1 := ⟨n - 1, by omega⟩
    have hi8 : i < 8 := by omega
    rw [List.range'_succ, List.foldl_cons, pm_settles_110, if_neg (show ¬ (8 : Int32) ≤ nI i from nI_ge (b := 8) hi8 (by omega)), show n + 1 - (k + 1) = n - k by omega]
    by_cases c : i = d
    · rw [if_pos (by rw [c]), Option.bind_some, nI_1]
      have e1 : st_one (st_A h0 nL nK nA w hd b) d o (nI du) i (nI q, P) = (nI q, P) := by unfold st_one; rw [if_pos c]
      rw [e1]
      obtain ⟨q', P', h', r1, r2, r3, r4, r5, r6, r7⟩ := ih (i + 1) n q B P h (by omega) (by omega) hq (by omega) hP s hw hh h9
      exact ⟨q', P', h', r1, r2, fun z hz => by obtain ⟨p, x1, x2⟩ := r3 z hz; exact ⟨p, by omega, x2⟩, r4, r5, r6, r7⟩
    · obtain ⟨p, h1, h2⟩ := hP i hi8
      obtain ⟨v, e, v1, v2⟩ := st_v (a := st_A h0 nL nK nA w hd b i) (du := du) (r := du - q) (p := p) (by omega) (by omega) (by omega) (hA i hi8)
      obtain ⟨g, p1, p2, p3, p4⟩ := pm_pays_sp (x := i) (o := o) (du := du) (r := du - q) (p := p) (P := P) R s hb hw hh hB hi8 ho eo h9 (by omega) (by omega) (by omega) h2 (hA i hi8)
      rw [h2, e] at p1 p2
      rw [if_neg (fun z => c ((nI_eq (by omega) (by omega)).mp z)), if_pos (pu_inb hi8 (by omega)), p1, Option.bind_some, Option.bind_some, nI_1, pk_sub v1, nI_add, show du - q - v = du - (q + v) by omega]
      have e1 : st_one (st_A h0 nL nK nA w hd b) d o (nI du) i (nI q, P) = (nI (q + v), st_pay P i o (nI v)) := by
        unfold st_one
        rw [if_neg c]
        simp only [pk_sub hq, h2, e, nI_add]
      rw [e1]
      have sg : pu_sm h0 g := pu_sm_t s fun k j z => by
        by_cases a : k = 73
        · subst a; exact p4 j (fun y => z (by unfold pu_scr; omega))
        · rw [p3 k (fun y => z (by unfold pu_scr; omega)) a]
      obtain ⟨q', P', h', r1, r2, r3, r4, r5, r6, r7⟩ := ih (i + 1) n (q + v) (B + 1100) (st_pay P i o (nI v)) g (by omega) (by omega) (by omega) (by omega) (st_pay_ok hP h2 h1 v2 (by omega) ho) sg (fun j hj => by rw [p3 108 (by decide) (by decide)]; exact hw j hj) (fun k hk => by rw [p3 93 (by decide) (by decide)]; exact hh k hk) p2
      exact ⟨q', P', h', r1, r2, fun z hz => by obtain ⟨p, x1, x2⟩ := r3 z hz; exact ⟨p, by omega, x2⟩, r4, r5, fun k x y => (r6 k x y).trans (p3 k x y), fun j hj => (r7 j hj).trans (p4 j hj)⟩
