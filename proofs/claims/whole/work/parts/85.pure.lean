/-! ===== the loop of the law ===== -/
set_option maxRecDepth 100000 in
set_option maxHeartbeats 8000000 in
theorem pu_loop {L : Nat} (hL : L ≤ 4608) (xs : Nat → Int32) : ∀ (d n i : Nat) (h : nv_Hp), pu_R h → L < i + 9 * d → i ≤ L → d < n → ∃ h', fL_law_18 L xs n (nI i) h = some (true, h') := by
  intro d
  induction d with
  | zero => intro n i h _ h1 h2 _; omega
  | succ d ih =>
    intro n i h R h1 h2 h3
    obtain ⟨n, rfl⟩ : ∃ k, n = k + 1 := ⟨n - 1, by omega⟩
    rw [fL_law_18]
    by_cases c : Int32.ofNat L - 9 < nI i
    · rw [if_pos c]; exact ⟨_, rfl⟩
    rw [if_neg c]
    have ci : i + 9 ≤ L := by
      rw [pu_lt, show Int32.ofNat L - 9 = nI L - nI 9 from rfl, pk_sub_toInt (by omega) (by omega), nI_toInt (by omega)] at c
      omega
    have g0 : nv_inb (nI i) L = true := pu_inb (by omega) (by omega)
    have g1 : nv_inb (nI i + 1) L = true := by rw [show nI i + 1 = nI (i + 1) from nI_add i 1]; exact pu_inb (by omega) (by omega)
    have g2 : nv_inb (nI i + 2) L = true := by rw [show nI i + 2 = nI (i + 2) from nI_add i 2]; exact pu_inb (by omega) (by omega)
    have g3 : nv_inb (nI i + 3) L = true := by rw [show nI i + 3 = nI (i + 3) from nI_add i 3]; exact pu_inb (by omega) (by omega)
    have g4 : nv_inb (nI i + 4) L = true := by rw [show nI i + 4 = nI (i + 4) from nI_add i 4]; exact pu_inb (by omega) (by omega)
    have g5 : nv_inb (nI i + 5) L = true := by rw [show nI i + 5 = nI (i + 5) from nI_add i 5]; exact pu_inb (by omega) (by omega)
    have g6 : nv_inb (nI i + 6) L = true := by rw [show nI i + 6 = nI (i + 6) from nI_add i 6]; exact pu_inb (by omega) (by omega)
    have g7 : nv_inb (nI i + 7) L = true := by rw [show nI i + 7 = nI (i + 7) from nI_add i 7]; exact pu_inb (by omega) (by omega)
    have g8 : nv_inb (nI i + 8) L = true := by rw [show nI i + 8 = nI (i + 8) from nI_add i 8]; exact pu_inb (by omega) (by omega)
    have ih' : ∀ h', pu_R h' → ∃ h'', fL_law_18 L xs n (nI i + 9) h' = some (true, h'') := fun h' R' => by
      rw [show nI i + 9 = nI (i + 9) from nI_add i 9]
      exact ih n (i + 9) h' R' (by omega) (by omega) (by omega)
    rw [if_pos g0, pu_ltE]
    generalize fL_law_18 L xs n = F at ih' ⊢
    generalize xs (nI i).toNatClampNeg &&& 31 = v3
    by_cases c0 : v3 = 0
    · obtain ⟨v, p1, p2, e1, e2, r⟩ := op_purse R (xs (nI i + 1).toNatClampNeg) (xs (nI i + 2).toNatClampNeg)
      rw [if_pos c0, if_pos g1, if_pos g2, e1, Option.bind_some]
      have e2 : pm_purse p1 (xs (nI i + 1).toNatClampNeg) (xs (nI i + 2).toNatClampNeg) = some (v, p2) := e2
      rw [e2, Option.bind_some, if_pos rfl]
      exact ih' p2 r
    rw [if_neg c0]
    by_cases c1 : v3 = 1
    · obtain ⟨v, p1, p2, e1, e2, r⟩ := op_leave R (xs (nI i + 1).toNatClampNeg) (xs (nI i + 2).toNatClampNeg) (xs (nI i + 3).toNatClampNeg) (xs (nI i + 4).toNatClampNeg) (xs (nI i + 5).toNatClampNeg) (xs (nI i + 6).toNatClampNeg) (xs (nI i + 7).toNatClampNeg) (xs (nI i + 8).toNatClampNeg)
      rw [if_pos c1, if_pos g1, if_pos g2, if_pos g3, if_pos g4, if_pos g5, if_pos g6, if_pos g7, if_pos g8, e1, Option.bind_some]
      have e2 : pm_leave p1 (xs (nI i + 1).toNatClampNeg) (xs (nI i + 2).toNatClampNeg) (xs (nI i + 3).toNatClampNeg) (xs (nI i + 4).toNatClampNeg) (xs (nI i + 5).toNatClampNeg) (xs (nI i + 6).toNatClampNeg) (xs (nI i + 7).toNatClampNeg) (xs (nI i + 8).toNatClampNeg) = some (v, p2) := e2
      rw [e2, Option.bind_some, if_pos rfl]
      exact ih' p2 r
    rw [if_neg c1]
    by_cases c2 : v3 = 2
    · obtain ⟨v, p1, p2, e1, e2, r⟩ := op_back R (xs (nI i + 1).toNatClampNeg) (xs (nI i + 2).toNatClampNeg) (xs (nI i + 3).toNatClampNeg) (xs (nI i + 4).toNatClampNeg)
      rw [if_pos c2, if_pos g1, if_pos g2, if_pos g3, if_pos g4, e1, Option.bind_some]
      have e2 : pm_back p1 (xs (nI i + 1).toNatClampNeg) (xs (nI i + 2).toNatClampNeg) (xs (nI i + 3).toNatClampNeg) (xs (nI i + 4).toNatClampNeg) = some (v, p2) := e2
      rw [e2, Option.bind_some, if_pos rfl]
      exact ih' p2 r
    rw [if_neg c2]
    by_cases c3 : v3 = 3
    · obtain ⟨v, p1, p2, e1, e2, r⟩ := op_heard R (xs (nI i + 1).toNatClampNeg) (xs (nI i + 2).toNatClampNeg)
      rw [if_pos c3, if_pos g1, if_pos g2, e1, Option.bind_some]
      have e2 : pm_heard p1 (xs (nI i + 1).toNatClampNeg) (xs (nI i + 2).toNatClampNeg) = some (v, p2) := e2
      rw [e2, Option.bind_some, if_pos rfl]
      exact ih' p2 r
    rw [if_neg c3]
    by_cases c4 : v3 = 4
    · obtain ⟨v, p1, p2, e1, e2, r⟩ := op_bargain R (xs (nI i + 1).toNatClampNeg) (xs (nI i + 2).toNatClampNeg) (xs (nI i + 3).toNatClampNeg) (xs (nI i + 4).toNatClampNeg) (xs (nI i + 5).toNatClampNeg) (xs (nI i + 6).toNatClampNeg)
      rw [if_pos c4, if_pos g1, if_pos g2, if_pos g3, if_pos g4, if_pos g5, if_pos g6, e1, Option.bind_some]
      have e2 : pm_bargain p1 (xs (nI i + 1).toNatClampNeg) (xs (nI i + 2).toNatClampNeg) (xs (nI i + 3).toNatClampNeg) (xs (nI i + 4).toNatClampNeg) (xs (nI i + 5).toNatClampNeg) (xs (nI i + 6).toNatClampNeg) = some (v, p2) := e2
      rw [e2, Option.bind_some, if_pos rfl]
      exact ih' p2 r
    rw [if_neg c4]
    by_cases c5 : v3 = 5
    · obtain ⟨v, p1, p2, e1, e2, r⟩ := op_read R (xs (nI i + 1).toNatClampNeg)
      rw [if_pos c5, if_pos g1, e1, Option.bind_some]
      have e2 : pm_read p1 (xs (nI i + 1).toNatClampNeg) = some (v, p2) := e2
      rw [e2, Option.bind_some, if_pos rfl]
      exact ih' p2 r
    rw [if_neg c5]
    by_cases c6 : v3 = 6
    · obtain ⟨v, p1, p2, e1, e2, r⟩ := op_after R (xs (nI i + 1).toNatClampNeg) (xs (nI i + 2).toNatClampNeg) (xs (nI i + 3).toNatClampNeg) (xs (nI i + 4).toNatClampNeg) (xs (nI i + 5).toNatClampNeg)
      rw [if_pos c6, if_pos g1, if_pos g2, if_pos g3, if_pos g4, if_pos g5, e1, Option.bind_some]
      have e2 : pm_after p1 (xs (nI i + 1).toNatClampNeg) (xs (nI i + 2).toNatClampNeg) (xs (nI i + 3).toNatClampNeg) (xs (nI i + 4).toNatClampNeg) (xs (nI i + 5).toNatClampNeg) = some (v, p2) := e2
      rw [e2, Option.bind_some, if_pos rfl]
      exact ih' p2 r
    rw [if_neg c6]
    by_cases c7 : v3 = 7
    · obtain ⟨v, e1, e2⟩ := op_leaveIs R (xs (nI i + 1).toNatClampNeg) (xs (nI i + 2).toNatClampNeg)
      rw [if_pos c7, if_pos g1, if_pos g2, e1, Option.bind_some, e2, Option.bind_some, if_pos rfl]
      exact ih' h R
    rw [if_neg c7]
    by_cases c8 : v3 = 8
    · obtain ⟨v, e1, e2⟩ := op_bargainIs R (xs (nI i + 1).toNatClampNeg) (xs (nI i + 2).toNatClampNeg)
      rw [if_pos c8, if_pos g1, if_pos g2, e1, Option.bind_some, e2, Option.bind_some, if_pos rfl]
      exact ih' h R
    rw [if_neg c8]
    by_cases c9 : v3 = 9
    · obtain ⟨v, p1, p2, e1, e2, r⟩ := op_type R (xs (nI i + 1).toNatClampNeg) (xs (nI i + 2).toNatClampNeg)
      rw [if_pos c9, if_pos g1, if_pos g2, e1, Option.bind_some]
      have e2 : pm_type p1 (xs (nI i + 1).toNatClampNeg) (xs (nI i + 2).toNatClampNeg) = some (v, p2) := e2
      rw [e2, Option.bind_some, if_pos rfl]
      exact ih' p2 r
    rw [if_neg c9]
    by_cases c10 : v3 = 10
    · obtain ⟨v, p1, p2, e1, e2, r⟩ := op_wipe R (xs (nI i + 1).toNatClampNeg)
      rw [if_pos c10, if_pos g1, e1, Option.bind_some]
      have e2 : pm_wipe p1 (xs (nI i + 1).toNatClampNeg) = some (v, p2) := e2
      rw [e2, Option.bind_some, if_pos rfl]
      exact ih' p2 r
    rw [if_neg c10]
    by_cases c11 : v3 = 11
    · obtain ⟨v, p2, e1, e2, r⟩ := op_fault R (xs (nI i + 1).toNatClampNeg)
      rw [if_pos c11, if_pos g1, e1, Option.bind_some, e2, Option.bind_some, if_pos rfl]
      exact ih' p2 r
    rw [if_neg c11]
    by_cases c12 : v3 = 12
    · obtain ⟨v, p2, e1, e2, r⟩ := op_law R (xs (nI i + 1).toNatClampNeg) (xs (nI i + 2).toNatClampNeg)
      rw [if_pos c12, if_pos g1, if_pos g2, e1, Option.bind_some, e2, Option.bind_some, if_pos rfl]
      exact ih' p2 r
    rw [if_neg c12]
    by_cases c13 : v3 = 13
    · obtain ⟨v, p2, e1, e2, r⟩ := op_reaches R (xs (nI i + 1).toNatClampNeg) (xs (nI i + 2).toNatClampNeg) (xs (nI i + 3).toNatClampNeg) (xs (nI i + 4).toNatClampNeg)
      rw [if_pos c13, if_pos g1, if_pos g2, if_pos g3, if_pos g4, e1, Option.bind_some, e2, Option.bind_some, if_pos rfl]
      exact ih' p2 r
    rw [if_neg c13]
    by_cases c14 : v3 = 14
    · obtain ⟨v, p2, e1, e2, r⟩ := op_bound R (xs (nI i + 1).toNatClampNeg) (xs (nI i + 2).toNatClampNeg) (xs (nI i + 3).toNatClampNeg)
      rw [if_pos c14, if_pos g1, if_pos g2, if_pos g3, e1, Option.bind_some, e2, Option.bind_some, if_pos rfl]
      exact ih' p2 r
    rw [if_neg c14]
    by_cases c15 : v3 = 15
    · obtain ⟨v, p2, e1, e2, r⟩ := op_till R (xs (nI i + 1).toNatClampNeg) (xs (nI i + 2).toNatClampNeg)
      rw [if_pos c15, if_pos g1, if_pos g2, e1, Option.bind_some, e2, Option.bind_some, if_pos rfl]
      exact ih' p2 r
    rw [if_neg c15]
    by_cases c16 : v3 = 16
    · obtain ⟨v, p2, e1, e2, r⟩ := op_ask R (xs (nI i + 1).toNatClampNeg) (xs (nI i + 2).toNatClampNeg) (xs (nI i + 3).toNatClampNeg)
      rw [if_pos c16, if_pos g1, if_pos g2, if_pos g3, e1, Option.bind_some, e2, Option.bind_some, if_pos rfl]
      exact ih' p2 r
    rw [if_neg c16]
    by_cases c17 : v3 = 17
    · obtain ⟨v, p2, e1, e2, r⟩ := op_owes R (xs (nI i + 1).toNatClampNeg) (xs (nI i + 2).toNatClampNeg)
      rw [if_pos c17, if_pos g1, if_pos g2, e1, Option.bind_some, e2, Option.bind_some, if_pos rfl]
      exact ih' p2 r
    rw [if_neg c17]
    by_cases c18 : v3 = 18
    · obtain ⟨v, p1, p2, e1, e2, r⟩ := op_end R (xs (nI i + 1).toNatClampNeg) (xs (nI i + 2).toNatClampNeg) (xs (nI i + 3).toNatClampNeg)
      rw [if_pos c18, if_pos g1, if_pos g2, if_pos g3, e1, Option.bind_some]
      have e2 : pm_end p1 (xs (nI i + 1).toNatClampNeg) (xs (nI i + 2).toNatClampNeg) (xs (nI i + 3).toNatClampNeg) = some (v, p2) := e2
      rw [e2, Option.bind_some, if_pos rfl]
      exact ih' p2 r
    rw [if_neg c18]
    by_cases c19 : v3 = 19
    · obtain ⟨v, p1, p2, e1, e2, r⟩ := op_sure R (xs (nI i + 1).toNatClampNeg) (xs (nI i + 2).toNatClampNeg) (xs (nI i + 3).toNatClampNeg)
      rw [if_pos c19, if_pos g1, if_pos g2, if_pos g3, e1, Option.bind_some]
      have e2 : pm_sure p1 (xs (nI i + 1).toNatClampNeg) (xs (nI i + 2).toNatClampNeg) (xs (nI i + 3).toNatClampNeg) = some (v, p2) := e2
      rw [e2, Option.bind_some, if_pos rfl]
      exact ih' p2 r
    rw [if_neg c19]
    by_cases c20 : v3 = 20
    · obtain ⟨v, p1, p2, e1, e2, r⟩ := op_hangs R (xs (nI i + 1).toNatClampNeg) (xs (nI i + 2).toNatClampNeg) (xs (nI i + 3).toNatClampNeg)
      rw [if_pos c20, if_pos g1, if_pos g2, if_pos g3, e1, Option.bind_some]
      have e2 : pm_hangs p1 (xs (nI i + 1).toNatClampNeg) (xs (nI i + 2).toNatClampNeg) (xs (nI i + 3).toNatClampNeg) = some (v, p2) := e2
      rw [e2, Option.bind_some, if_pos rfl]
      exact ih' p2 r
    rw [if_neg c20]
    by_cases c21 : v3 = 21
    · obtain ⟨v, p1, p2, e1, e2, r⟩ := op_wanted R (xs (nI i + 1).toNatClampNeg) (xs (nI i + 2).toNatClampNeg)
      rw [if_pos c21, if_pos g1, if_pos g2, e1, Option.bind_some]
      have e2 : pm_wanted p1 (xs (nI i + 1).toNatClampNeg) (xs (nI i + 2).toNatClampNeg) = some (v, p2) := e2
      rw [e2, Option.bind_some, if_pos rfl]
      exact ih' p2 r
    rw [if_neg c21]
    by_cases c22 : v3 = 22
    · obtain ⟨v, p1, p2, e1, e2, r⟩ := op_turned R (xs (nI i + 1).toNatClampNeg)
      rw [if_pos c22, if_pos g1, e1, Option.bind_some]
      have e2 : pm_turned p1 (xs (nI i + 1).toNatClampNeg) = some (v, p2) := e2
      rw [e2, Option.bind_some, if_pos rfl]
      exact ih' p2 r
    rw [if_neg c22]
    by_cases c23 : v3 = 23
    · obtain ⟨v, p2, e1, e2, r⟩ := op_letter R (xs (nI i + 1).toNatClampNeg) (xs (nI i + 2).toNatClampNeg) (xs (nI i + 3).toNatClampNeg) (xs (nI i + 4).toNatClampNeg)
      rw [if_pos c23, if_pos g1, if_pos g2, if_pos g3, if_pos g4, e1, Option.bind_some, e2, Option.bind_some, if_pos rfl]
      exact ih' p2 r
    rw [if_neg c23]
    by_cases c24 : v3 = 24
    · obtain ⟨v, p1, p2, e1, e2, r⟩ := op_sheet R (xs (nI i + 1).toNatClampNeg) (xs (nI i + 2).toNatClampNeg) (xs (nI i + 3).toNatClampNeg)
      rw [if_pos c24, if_pos g1, if_pos g2, if_pos g3, e1, Option.bind_some]
      have e2 : pm_sheet p1 (xs (nI i + 1).toNatClampNeg) (xs (nI i + 2).toNatClampNeg) (xs (nI i + 3).toNatClampNeg) = some (v, p2) := e2
      rw [e2, Option.bind_some, if_pos rfl]
      exact ih' p2 r
    rw [if_neg c24]
    by_cases c25 : v3 = 25
    · obtain ⟨v, p1, p2, e1, e2, r⟩ := op_lose R (xs (nI i + 1).toNatClampNeg)
      rw [if_pos c25, if_pos g1, e1, Option.bind_some]
      have e2 : pm_lose p1 (xs (nI i + 1).toNatClampNeg) = some (v, p2) := e2
      rw [e2, Option.bind_some, if_pos rfl]
      exact ih' p2 r
    rw [if_neg c25]
    by_cases c26 : v3 = 26
    · obtain ⟨v, p1, p2, e1, e2, r⟩ := op_lay R (xs (nI i + 1).toNatClampNeg) (xs (nI i + 2).toNatClampNeg) (xs (nI i + 3).toNatClampNeg) (xs (nI i + 4).toNatClampNeg)
      rw [if_pos c26, if_pos g1, if_pos g2, if_pos g3, if_pos g4, e1, Option.bind_some]
      have e2 : pm_lay p1 (xs (nI i + 1).toNatClampNeg) (xs (nI i + 2).toNatClampNeg) (xs (nI i + 3).toNatClampNeg) (xs (nI i + 4).toNatClampNeg) = some (v, p2) := e2
      rw [e2, Option.bind_some, if_pos rfl]
      exact ih' p2 r
    rw [if_neg c26]
    by_cases c27 : v3 = 27
    · obtain ⟨v, p1, p2, e1, e2, r⟩ := op_get R (xs (nI i + 1).toNatClampNeg) (xs (nI i + 2).toNatClampNeg) (xs (nI i + 3).toNatClampNeg)
      rw [if_pos c27, if_pos g1, if_pos g2, if_pos g3, e1, Option.bind_some]
      have e2 : pm_get p1 (xs (nI i + 1).toNatClampNeg) (xs (nI i + 2).toNatClampNeg) (xs (nI i + 3).toNatClampNeg) = some (v, p2) := e2
      rw [e2, Option.bind_some, if_pos rfl]
      exact ih' p2 r
    rw [if_neg c27]
    by_cases c28 : v3 = 28
    · obtain ⟨v, p1, p2, e1, e2, r⟩ := op_copy R (xs (nI i + 1).toNatClampNeg) (xs (nI i + 2).toNatClampNeg) (xs (nI i + 3).toNatClampNeg) (xs (nI i + 4).toNatClampNeg) (xs (nI i + 5).toNatClampNeg)
      rw [if_pos c28, if_pos g1, if_pos g2, if_pos g3, if_pos g4, if_pos g5, e1, Option.bind_some]
      have e2 : pm_copy p1 (xs (nI i + 1).toNatClampNeg) (xs (nI i + 2).toNatClampNeg) (xs (nI i + 3).toNatClampNeg) (xs (nI i + 4).toNatClampNeg) (xs (nI i + 5).toNatClampNeg) = some (v, p2) := e2
      rw [e2, Option.bind_some, if_pos rfl]
      exact ih' p2 r
    rw [if_neg c28]
    by_cases c29 : v3 = 29
    · obtain ⟨v, p1, p2, e1, e2, r⟩ := op_write R (xs (nI i + 1).toNatClampNeg) (xs (nI i + 2).toNatClampNeg)
      rw [if_pos c29, if_pos g1, if_pos g2, e1, Option.bind_some]
      have e2 : pm_write p1 (xs (nI i + 1).toNatClampNeg) (xs (nI i + 2).toNatClampNeg) = some (v, p2) := e2
      rw [e2, Option.bind_some, if_pos rfl]
      exact ih' p2 r
    rw [if_neg c29]
    by_cases c30 : v3 = 30
    · obtain ⟨v, e1, e2⟩ := op_count R (xs (nI i + 1).toNatClampNeg)
      rw [if_pos c30, if_pos g1, e1, Option.bind_some, e2, Option.bind_some, if_pos rfl]
      exact ih' h R
    rw [if_neg c30]
    by_cases c31 : v3 = 31
    · obtain ⟨v, p1, p2, e1, e2, r⟩ := op_digest R
      have lz : lg_cmp v v = 0 := by unfold lg_cmp; rw [if_neg Int64.lt_irrefl, if_pos rfl]
      rw [if_pos c31, e1, Option.bind_some, e2, Option.bind_some, if_pos lz]
      exact ih' p2 r
    rw [if_neg c31]
    exact ih' h R
theorem nv_pure (L : Nat) (hL : L ≤ 4608) (xs : Nat → Int32) : ∃ h : nv_Hp, fL_law_18 L xs nv_fu 0 nv_h0 = some (true, h) := by
  obtain ⟨h, e⟩ := pu_loop hL xs 600 nv_fu 0 nv_h0 pu_R0 (by omega) (by omega) (show 600 < 4000 by omega)
  rw [nI_0] at e
  exact ⟨h, e⟩
