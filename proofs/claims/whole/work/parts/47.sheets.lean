/-! ===== operations: sheet, lose, lay, get ===== -/
theorem pu_shR {h q : nv_Hp} {nL nK nB nA s : Nat} (r : pu_Rn h nL nK nB nA) (kk : ∀ k, k ≠ 65 + 2 * s → k ≠ 66 + 2 * s → k ≠ 74 → k ≠ 75 → k ≠ 76 → k ≠ 77 → q k = h k) (hs : s < 4) (q4 : ∀ j, j ≠ s → q 74 j = h 74 j) (q5 : ∀ j, j ≠ s → q 75 j = h 75 j) (q6 : ∀ j, ¬ (60 * s ≤ j ∧ j < 60 * s + 60) → q 76 j = h 76 j) (S : pu_Rs q s) : pu_Rn q nL nK nB nA := by
  obtain ⟨r1, r2, r3, r4, r5, r6, r7, r8⟩ := r
  have kf : ∀ k, ¬ (65 ≤ k ∧ k ≤ 72) → ¬ (74 ≤ k ∧ k ≤ 77) → q k = h k := fun k a b => kk k (by omega) (by omega) (by omega) (by omega) (by omega) (by omega)
  refine ⟨pu_Rp_cg (kf 1 (by omega) (by omega)) (kf 78 (by omega) (by omega)) r1, pu_Rc_cg (fun j => by rw [kf 0 (by omega) (by omega)]) (fun j => by rw [kf 73 (by omega) (by omega)]) r2, pu_Rl_cg r2.1.2.2 (fun k _ _ => kf k (by omega) (by omega)) (fun k _ _ => kf k (by omega) (by omega)) r3, pu_Rk_cg r2.2.1.2.2 (fun k _ _ => kf k (by omega) (by omega)) (fun k _ _ => kf k (by omega) (by omega)) r4, pu_Rb_cg r2.2.2.1.2.2 (fun k _ _ => kf k (by omega) (by omega)) (fun k _ _ => kf k (by omega) (by omega)) r5, pu_Ra_cg r2.2.2.2.1.2.2 (fun k _ _ => kf k (by omega) (by omega)) (fun k _ _ => kf k (by omega) (by omega)) r6, pu_R7_cg (fun k _ _ => kf k (by omega) (by omega)) (kf 105 (by omega) (by omega)) (kf 106 (by omega) (by omega)) r7, fun m hm => ?_⟩
  by_cases c : m = s
  · subst c; exact S
  · obtain ⟨sz, t1, t2, t3, t4⟩ := r8 m hm
    have e1 : q (65 + 2 * m) = h (65 + 2 * m) := kk _ (by omega) (by omega) (by omega) (by omega) (by omega) (by omega)
    have e2 : q (66 + 2 * m) = h (66 + 2 * m) := kk _ (by omega) (by omega) (by omega) (by omega) (by omega) (by omega)
    refine ⟨sz, t1, by rw [e1]; exact t2, by rw [q5 m c]; exact t3, ?_⟩
    rw [e1, e2, q4 m c]
    rcases t4 with t | ⟨u1, u2, u3, u4⟩
    · exact Or.inl t
    · exact Or.inr ⟨u1, u2, u3, fun j hj => by rw [q6 _ (by omega)]; exact u4 j hj⟩
theorem pu_find_R {h : nv_Hp} (R : pu_R h) (v : Int32) : pu_R (nv_up (nv_up h 0 11 v) 73 4 v) := by
  obtain ⟨nL, nK, nB, nA, r1, r2, r3, r4, r5, r6, r7, r8⟩ := R
  have kf : ∀ k, k ≠ 0 → k ≠ 73 → nv_up (nv_up h 0 11 v) 73 4 v k = h k := fun k a b => by rw [pu_up_c b, pu_up_c a]
  have k0 : ∀ j, j ≠ 11 → nv_up (nv_up h 0 11 v) 73 4 v 0 j = h 0 j := fun j hj => by rw [nv_up_k _ _ (by decide), nv_up_j _ _ hj]
  have k7 : ∀ j, j ≠ 4 → nv_up (nv_up h 0 11 v) 73 4 v 73 j = h 73 j := fun j hj => by rw [nv_up_j _ _ hj, nv_up_k _ _ (by decide)]
  refine ⟨nL, nK, nB, nA, pu_Rp_cg (kf 1 (by omega) (by omega)) (kf 78 (by omega) (by omega)) r1, ?_, pu_Rl_cg r2.1.2.2 (fun k _ _ => kf k (by omega) (by omega)) (fun k _ _ => kf k (by omega) (by omega)) r3, pu_Rk_cg r2.2.1.2.2 (fun k _ _ => kf k (by omega) (by omega)) (fun k _ _ => kf k (by omega) (by omega)) r4, pu_Rb_cg r2.2.2.1.2.2 (fun k _ _ => kf k (by omega) (by omega)) (fun k _ _ => kf k (by omega) (by omega)) r5, pu_Ra_cg r2.2.2.2.1.2.2 (fun k _ _ => kf k (by omega) (by omega)) (fun k _ _ => kf k (by omega) (by omega)) r6, pu_R7_cg (fun k _ _ => kf k (by omega) (by omega)) (kf 105 (by omega) (by omega)) (kf 106 (by omega) (by omega)) r7, pu_R8_cg (fun k _ _ => kf k (by omega) (by omega)) (kf 74 (by omega) (by omega)) (kf 75 (by omega) (by omega)) (kf 76 (by omega) (by omega)) r8⟩
  unfold pu_Rc
  rw [k0 7 (by decide), k0 8 (by decide), k0 9 (by decide), k0 10 (by decide), k7 6 (by decide), k7 17 (by decide), k7 23 (by decide), k7 30 (by decide)]
  exact ⟨r2.1, r2.2.1, r2.2.2.1, r2.2.2.2.1, by rw [nv_up_s, nv_up_k _ _ (by decide), nv_up_s]⟩
/-- a finding on both sides, with any answer -/
theorem pu_fo {h : nv_Hp} (R : pu_R h) (v a : Int32) {m : nv_Hp → Option (Int32 × nv_Hp)} (e : m (nv_up h 0 11 v) = some (a, nv_up (nv_up h 0 11 v) 73 4 v)) : pu_o2 (some (a, nv_up h 0 11 v)) m := ⟨_, _, _, rfl, e, pu_find_R R v⟩
theorem pu_kind3 {x : Int32} (h : fc_isKind x = true) : x = 0 ∨ x = 1 ∨ x = 2 := by
  obtain ⟨i, hi, rfl⟩ := pu_idk 2 (by decide) h
  have : i = 0 ∨ i = 1 ∨ i = 2 := by omega
  rcases this with rfl | rfl | rfl
  · exact Or.inl rfl
  · exact Or.inr (Or.inl rfl)
  · exact Or.inr (Or.inr rfl)
/-- kept or lost -/
theorem pu_Rs_le {h : nv_Hp} {s : Nat} (S : pu_Rs h s) : (0 ≤ h 74 s) ↔ h (65 + 2 * s) 1 = 0 := by
  obtain ⟨sz, t1, t2, t3, t4⟩ := S
  rcases t4 with ⟨a, b⟩ | ⟨a, b, c, _⟩
  · rw [a, b]; decide
  · rw [a]
    rcases c with c | c | c <;> rw [c] <;> decide
theorem fs_t1 (k0 : Nat) : ∀ (n : Nat) (s : nv_Hp), fs_renew_17 k0 (n + 1) (nI 60) s = some s := fun n s => by
    rw [fs_renew_17, if_pos (show (60 : Int32) ≤ nI 60 from nI_le (a := 60) (b := 60) (by omega) (by omega))]
theorem fs_t2 (k0 : Nat) : ∀ (n i : Nat) (s : nv_Hp), i < 60 → fs_renew_17 k0 (n + 1) (nI i) s = fs_renew_17 k0 n (nI (i + 1)) (nv_up s (k0 + 1) i 0) := fun n i s hi => by
    rw [fs_renew_17, if_neg (show ¬ (60 : Int32) ≤ nI i from nI_ge (b := 60) (by omega) (by omega)), if_pos (pu_inb (by omega) (by omega)), nI_clamp (by omega), nI_1]
    rfl
theorem fs_t3 (k0 : Nat) (g : nv_Hp) : ∃ q, fs_renew_17 k0 nv_fu 0 g = some q ∧ (∀ k, k ≠ k0 + 1 → q k = g k) ∧ ∀ j, j < 60 → q (k0 + 1) j = 0 := by
  have key := pu_fold (fun n (s : nv_Hp) x => fs_renew_17 k0 n x s) 60 (fun i s => (∀ k, k ≠ k0 + 1 → s k = g k) ∧ ∀ j, j < i → s (k0 + 1) j = 0) (fun i s => nv_up s (k0 + 1) i 0) some (fun n i s hi hI => by
    refine ⟨fs_t2 k0 n i s hi, fun k hk => by rw [pu_up_c hk]; exact hI.1 k hk, fun j hj => ?_⟩
    by_cases c : j = i
    · subst c; rw [nv_up_s]
    · rw [nv_up_j _ _ c]; exact hI.2 j (by omega)) (fun n s _ => fs_t1 k0 n s) 60 0 nv_fu g (by omega) (show 60 < 4000 by omega) ⟨fun _ _ => rfl, fun j hj => by omega⟩
  obtain ⟨k1, k2, k3⟩ := key
  generalize List.foldl (fun s j => nv_up s (k0 + 1) j 0) g (List.range' 0 60) = q at k1 k2 k3
  rw [nI_0] at k1
  exact ⟨q, k1, k2, k3⟩
theorem pu_ltE {α β : Type} (a : α) (f : α → β) : nv_lt a f = f a := by
  have h : nv_lt a f = f a := rfl
  exact h.trans (Eq.refl _)
theorem fs_renew_sp (h : nv_Hp) (k0 : Nat) (x1 x2 : Int32) : ∃ q, fs_renew h k0 x1 x2 = some q ∧ (∀ k, k ≠ k0 → k ≠ k0 + 1 → q k = h k) ∧ q k0 1 = 0 ∧ q k0 2 = x1 ∧ q k0 3 = x2 ∧ ∀ j, j < 60 → q (k0 + 1) j = 0 := by
  unfold fs_renew
  rw [pu_ltE, pu_ltE, pu_ltE]
  generalize eg : nv_up (nv_up (nv_up h k0 1 0) k0 2 x1) k0 3 x2 = g
  have gk : ∀ k, k ≠ k0 → g k = h k := fun k a => by rw [← eg, pu_up_c a, pu_up_c a, pu_up_c a]
  obtain ⟨q, k1, k2, k3⟩ := fs_t3 k0 g
  refine ⟨q, k1, fun k a b => by rw [k2 k b, gk k a], ?_, ?_, ?_, k3⟩
  · rw [k2 k0 (by omega), ← eg, nv_up_j _ _ (by decide), nv_up_j _ _ (by decide), nv_up_s]
  · rw [k2 k0 (by omega), ← eg, nv_up_j _ _ (by decide), nv_up_s]
  · rw [k2 k0 (by omega), ← eg, nv_up_s]
theorem op_sheet {h : nv_Hp} (R : pu_R h) (x1 x2 x3 : Int32) : pu_o2 (fc_sheet h x1 x2 x3) (fun h1 => pm_sheet h1 x1 x2 x3) := by
  have R' := R
  obtain ⟨nL, nK, nB, nA, r⟩ := R
  unfold fc_sheet pm_sheet fc_find pm_met
  simp only [pu_sheet, pu_kind, nv_lt]
  by_cases q1 : fc_isSheet x1 = true
  · by_cases q2 : fc_isKind x2 = true
    · by_cases q3 : x3 ≤ 60
      · by_cases q4 : 0 ≤ x3
        · obtain ⟨s, hs, rfl⟩ := pu_sheetI q1
          obtain ⟨sz, hz, rfl⟩ := nI_of2 (x := x3) (M := 60) (n := 60) (by decide) (Int32.not_lt.mpr q4) q3
          obtain ⟨p, p1, p2, p3, p4, p5, p6⟩ := fs_renew_sp h (65 + 2 * s) x2 (nI sz)
          rw [show 65 + 2 * s + 1 = 66 + 2 * s by omega] at p2 p6
          simp only [q1, q2, q3, q4, if_true, pu_inb hs (show 4 < 2 ^ 31 by omega), nI_clamp (show s < 2 ^ 31 by omega), p1, Option.bind_some]
          generalize eg : nv_up (nv_up p 74 s x2) 75 s (nI sz) = g
          have gk : ∀ k, k ≠ 74 → k ≠ 75 → g k = p k := fun k a b => by rw [← eg, pu_up_c b, pu_up_c a]
          have key := pu_fold (fun n (u : nv_Hp) x => pm_sheet_55 (nI s) (nI sz) n x u) sz (fun i u => (∀ k, k ≠ 76 → u k = g k) ∧ (∀ j, ¬ (60 * s ≤ j ∧ j < 60 * s + 60) → u 76 j = g 76 j) ∧ ∀ j, j < i → u 76 (60 * s + j) = 0) (fun i u => nv_up u 76 (60 * s + i) 0) (fun u => some (nI sz, u)) (fun n i u hi hI => by
            refine ⟨?_, fun k hk => by rw [pu_up_c hk]; exact hI.1 k hk, fun j hj => by rw [nv_up_j _ _ (by omega)]; exact hI.2.1 j hj, fun j hj => ?_⟩
            · rw [pm_sheet_55, if_neg (nI_ge hi (by omega)), show (60 : Int32) * nI s = nI (60 * s) from pk_mul 60 s, nI_add, if_pos (pu_inb (by omega) (by omega)), nI_clamp (by omega), nI_1]
              rfl
            · by_cases c : j = i
              · subst c; rw [nv_up_s]
              · rw [nv_up_j _ _ (by omega)]; exact hI.2.2 j (by omega)) (fun n u _ => by
            rw [pm_sheet_55, if_pos (nI_le (Nat.le_refl _) (by omega))]) sz 0 nv_fu g (by omega) (show sz < 4000 by omega) ⟨fun _ _ => rfl, fun _ _ => rfl, fun j hj => by omega⟩
          obtain ⟨k1, k2, k3, k4⟩ := key
          generalize List.foldl (fun u j => nv_up u 76 (60 * s + j) 0) g (List.range' 0 sz) = q at k1 k2 k3 k4
          refine ⟨nI sz, p, q, rfl, ?_, nL, nK, nB, nA, pu_shR r (fun k a b c d e f => by rw [k2 k e, gk k c d, p2 k a b]) hs (fun j hj => by rw [k2 74 (by decide), ← eg, nv_up_k _ _ (by decide), nv_up_j _ _ hj, p2 74 (by omega) (by omega)]) (fun j hj => by rw [k2 75 (by decide), ← eg, nv_up_j _ _ hj, nv_up_k _ _ (by decide), p2 75 (by omega) (by omega)]) (fun j hj => by rw [k3 j hj, gk 76 (by decide) (by decide), p2 76 (by omega) (by omega)]) ?_⟩
          · simp only [eg]
            rw [← nI_0]; exact k1
          · have c1 : q (65 + 2 * s) = p (65 + 2 * s) := by rw [k2 _ (by omega), gk _ (by omega) (by omega)]
            have c2 : q (66 + 2 * s) = p (66 + 2 * s) := by rw [k2 _ (by omega), gk _ (by omega) (by omega)]
            have c4 : q 74 s = x2 := by rw [k2 74 (by decide), ← eg, nv_up_k _ _ (by decide), nv_up_s]
            have c5 : q 75 s = nI sz := by rw [k2 75 (by decide), ← eg, nv_up_s]
            exact ⟨sz, hz, by rw [c1]; exact p5, c5, Or.inr ⟨by rw [c1]; exact p3, by rw [c1, c4]; exact p4.symm, by rw [c4]; exact pu_kind3 q2, fun j hj => by rw [k4 j hj, c2, p6 j (by omega)]⟩⟩
        · simp only [q1, q2, q3, q4, if_true, if_false]; exact pu_fo R' 5 _ rfl
      · simp only [q1, q2, q3, if_true, if_false]; exact ⟨_, _, _, rfl, rfl, R'⟩
    · simp only [q1, q2, if_true, if_false]; exact ⟨_, _, _, rfl, rfl, R'⟩
  · simp only [q1, if_false]; exact ⟨_, _, _, rfl, rfl, R'⟩
theorem op_lose {h : nv_Hp} (R : pu_R h) (x1 : Int32) : pu_o2 (fc_lose h x1) (fun h1 => pm_lose h1 x1) := by
  have R' := R
  obtain ⟨nL, nK, nB, nA, r⟩ := R
  unfold fc_lose pm_lose fc_find pm_met
  simp only [pu_sheet, nv_lt]
  by_cases q1 : fc_isSheet x1 = true
  · obtain ⟨s, hs, rfl⟩ := pu_sheetI q1
    have S := r.2.2.2.2.2.2.2 s hs
    have Sl := pu_Rs_le S
    simp only [q1, if_true, pu_inb hs (show 4 < 2 ^ 31 by omega), nI_clamp (show s < 2 ^ 31 by omega)]
    by_cases c : h (65 + 2 * s) 1 = 0
    · rw [if_pos c]
      obtain ⟨sz, t1, t2, t3, t4⟩ := S
      have e74 : nv_up h (65 + 2 * s) 1 1 74 s = h 74 s := by rw [nv_up_k _ _ (by omega)]
      have e75 : nv_up h (65 + 2 * s) 1 1 75 s = nI sz := by rw [nv_up_k _ _ (by omega)]; exact t3
      have e3 : nv_up h (65 + 2 * s) 1 1 (65 + 2 * s) 3 = nI sz := by rw [nv_up_j _ _ (by decide)]; exact t2
      refine ⟨nI sz, _, nv_up (nv_up h (65 + 2 * s) 1 1) 74 s (-1), by rw [e3], ?_, nL, nK, nB, nA, pu_shR r (fun k a b c d e f => by rw [pu_up_c c, pu_up_c a]) hs (fun j hj => by rw [nv_up_j _ _ hj, nv_up_k _ _ (by omega)]) (fun j hj => by rw [nv_up_k _ _ (by decide), nv_up_k _ _ (by omega)]) (fun j hj => by rw [nv_up_k _ _ (by decide), nv_up_k _ _ (by omega)]) ?_⟩
      · simp only [e74]
        rw [if_pos (Sl.mpr c), nv_up_k _ _ (by decide), e75]
      · exact ⟨sz, t1, by rw [nv_up_k _ _ (by omega)]; exact e3, by rw [nv_up_k _ _ (by decide)]; exact e75, Or.inl ⟨by rw [nv_up_k _ _ (by omega), nv_up_s], nv_up_s ..⟩⟩
    · rw [if_neg c]
      refine pu_fo R' 1 _ ?_
      have e74 : nv_up h 0 11 1 74 s = h 74 s := by rw [nv_up_k _ _ (by omega)]
      simp only [e74]
      rw [if_neg (fun z => c (Sl.mp z))]
  · simp only [q1, if_false]; exact ⟨_, _, _, rfl, rfl, R'⟩
