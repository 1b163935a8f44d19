/-! ===== operations: type, wipe ===== -/
/-- a law's cells after its text has changed -/
theorem pu_text {h g q : nv_Hp} {nL nK nB nA l sz : Nat} (r : pu_Rn h nL nK nB nA) (hl : l < 2) (hz : sz ≤ 60)
    (gk : ∀ k, k ≠ 59 + 3 * l → k ≠ 60 + 3 * l → k ≠ 61 + 3 * l → g k = h k) (w1 : g (59 + 3 * l) 2 = nI sz) (w2 : g (59 + 3 * l) 3 = (pa_all (g (60 + 3 * l)) sz).1) (w3 : ∀ j, j < 9 → g (61 + 3 * l) j = (pa_all (g (60 + 3 * l)) sz).2 j)
    (qk : ∀ k, k ≠ 105 → k ≠ 106 → q k = g k) (q6 : q 106 l = nI sz) (q6' : ∀ j, j ≠ l → q 106 j = g 106 j) (q5 : ∀ j, j < sz → q 105 (60 * l + j) = g (60 + 3 * l) j) (q5' : ∀ j, ¬ (60 * l ≤ j ∧ j < 60 * l + 60) → q 105 j = g 105 j) : pu_R q := by
  obtain ⟨r1, r2, r3, r4, r5, r6, r7, r8⟩ := r
  have kk : ∀ k, k ≠ 59 + 3 * l → k ≠ 60 + 3 * l → k ≠ 61 + 3 * l → k ≠ 105 → k ≠ 106 → q k = h k := fun k a b c d e => (qk k d e).trans (gk k a b c)
  refine ⟨nL, nK, nB, nA, pu_Rp_cg (kk 1 (by omega) (by omega) (by omega) (by omega) (by omega)) (kk 78 (by omega) (by omega) (by omega) (by omega) (by omega)) r1, pu_Rc_cg (fun j => by rw [kk 0 (by omega) (by omega) (by omega) (by omega) (by omega)]) (fun j => by rw [kk 73 (by omega) (by omega) (by omega) (by omega) (by omega)]) r2, pu_Rl_cg r2.1.2.2 (fun k _ _ => kk k (by omega) (by omega) (by omega) (by omega) (by omega)) (fun k _ _ => kk k (by omega) (by omega) (by omega) (by omega) (by omega)) r3, pu_Rk_cg r2.2.1.2.2 (fun k _ _ => kk k (by omega) (by omega) (by omega) (by omega) (by omega)) (fun k _ _ => kk k (by omega) (by omega) (by omega) (by omega) (by omega)) r4, pu_Rb_cg r2.2.2.1.2.2 (fun k _ _ => kk k (by omega) (by omega) (by omega) (by omega) (by omega)) (fun k _ _ => kk k (by omega) (by omega) (by omega) (by omega) (by omega)) r5, pu_Ra_cg r2.2.2.2.1.2.2 (fun k _ _ => kk k (by omega) (by omega) (by omega) (by omega) (by omega)) (fun k _ _ => kk k (by omega) (by omega) (by omega) (by omega) (by omega)) r6, fun m hm => ?_, pu_R8_cg (fun k _ _ => kk k (by omega) (by omega) (by omega) (by omega) (by omega)) (kk 74 (by omega) (by omega) (by omega) (by omega) (by omega)) (kk 75 (by omega) (by omega) (by omega) (by omega) (by omega)) (kk 76 (by omega) (by omega) (by omega) (by omega) (by omega)) r8⟩
  by_cases c : m = l
  · subst c
    refine ⟨⟨sz, hz, by rw [qk _ (by omega) (by omega)]; exact w1, q6, fun j hj => by rw [qk (60 + 3 * m) (by omega) (by omega)]; exact q5 j hj⟩, sz, hz, by rw [qk _ (by omega) (by omega)]; exact w1, by rw [qk (59 + 3 * m) (by omega) (by omega), qk (60 + 3 * m) (by omega) (by omega)]; exact w2, fun j hj => by rw [qk (61 + 3 * m) (by omega) (by omega), qk (60 + 3 * m) (by omega) (by omega)]; exact w3 j hj⟩
  · obtain ⟨⟨s, t1, t2, t3, t4⟩, t5⟩ := r7 m hm
    refine ⟨⟨s, t1, by rw [kk _ (by omega) (by omega) (by omega) (by omega) (by omega)]; exact t2, by rw [q6' m c, gk 106 (by omega) (by omega) (by omega)]; exact t3, fun j hj => by rw [q5' _ (by omega), gk 105 (by omega) (by omega) (by omega), kk _ (by omega) (by omega) (by omega) (by omega) (by omega)]; exact t4 j hj⟩, pu_Rw_cg (kk _ (by omega) (by omega) (by omega) (by omega) (by omega)) (kk _ (by omega) (by omega) (by omega) (by omega) (by omega)) (kk _ (by omega) (by omega) (by omega) (by omega) (by omega)) t5⟩
theorem op_type {h : nv_Hp} (R : pu_R h) (x1 x2 : Int32) : pu_o2 (fc_type h x1 x2) (fun h1 => pm_type h1 x1 x2) := by
  have R' := R
  obtain ⟨nL, nK, nB, nA, r⟩ := R
  unfold fc_type pm_type
  simp only [pu_two, pu_inc x2 0 255 (show _ = (0 : Int64) by decide) (show _ = (255 : Int64) by decide)]
  by_cases q1 : fc_isLaw x1 = true
  · by_cases q2 : fc_isWithin x2 0 255 = true
    · obtain ⟨l, hl, rfl⟩ := pu_law q1
      obtain ⟨⟨sz, t1, t2, t3, t4⟩, _⟩ := r.2.2.2.2.2.2.1 l hl
      simp only [q1, q2, if_true, pu_inb hl (show 2 < 2 ^ 31 by omega), nI_clamp (show l < 2 ^ 31 by omega), t2]
      by_cases c : sz < 60
      · rw [if_pos (show nI sz < 60 from nI_lt (b := 60) c (by omega))]
        unfold fw_append
        rw [t2, if_neg (show ¬ (60 : Int32) ≤ nI sz from nI_ge (b := 60) c (by omega)), if_pos (pu_inb c (by omega)), nI_clamp (by omega), show 59 + 3 * l + 1 = 60 + 3 * l by omega]
        simp only [nv_lt]
        have e0 : nv_up h (60 + 3 * l) sz x2 (59 + 3 * l) 2 = nI sz := by rw [nv_up_k _ _ (by omega)]; exact t2
        rw [e0, nI_1]
        generalize eg : nv_up (nv_up h (60 + 3 * l) sz x2) (59 + 3 * l) 2 (nI (sz + 1)) = g
        have g1 : g (59 + 3 * l) 2 = nI (sz + 1) := by rw [← eg, nv_up_s]
        have gk : ∀ k, k ≠ 59 + 3 * l → k ≠ 60 + 3 * l → g k = h k := fun k a b => by rw [← eg, pu_up_c a, pu_up_c b]
        have gb : ∀ j, g (60 + 3 * l) j = if j = sz then x2 else h (60 + 3 * l) j := fun j => by
          rw [← eg, nv_up_k _ _ (by omega)]
          by_cases d : j = sz
          · subst d; rw [nv_up_s, if_pos rfl]
          · rw [nv_up_j _ _ d, if_neg d]
        obtain ⟨p, p1, p2, p3, p4, p5⟩ := fw_und_sp (h := g) (k0 := 59 + 3 * l) g1 (by omega)
        rw [show 59 + 3 * l + 1 = 60 + 3 * l by omega] at p4 p5
        rw [pu_lawc hl] at p5 p2
        have pb : p (60 + 3 * l) = g (60 + 3 * l) := p2 _ (by omega) (by omega)
        have pk : ∀ k, k ≠ 59 + 3 * l → k ≠ 60 + 3 * l → k ≠ 61 + 3 * l → p k = h k := fun k a b c => by rw [p2 k a c, gk k a b]
        rw [p1]
        refine ⟨nI (sz + 1), p, nv_up (nv_up p 105 (60 * l + sz) x2) 106 l (nI (sz + 1)), ?_, ?_, pu_text (g := p) (sz := sz + 1) r hl (by omega) pk (by rw [p3 2 (by decide)]; exact g1) (by rw [pb]; exact p4) (by rw [pb]; exact p5) (fun k a b => by rw [pu_up_c b, pu_up_c a]) (nv_up_s ..) (fun j hj => by rw [nv_up_j _ _ hj, nv_up_k _ _ (by decide)]) (fun j hj => ?_) (fun j hj => by rw [nv_up_k _ _ (by decide), nv_up_j _ _ (by omega)])⟩
        · simp only [Option.bind_some]
          rw [p3 2 (by decide), g1]
        · have e106 : p 106 l = nI sz := by rw [pk 106 (by omega) (by omega) (by omega)]; exact t3
          have n60 : ¬ nI sz = 60 := fun z => by have := (pu_eqn (m := 60) (c := 60) rfl (by omega) (by omega)).mp z; omega
          simp only [e106, n60, if_false, show (60 : Int32) * nI l = nI (60 * l) from pk_mul 60 l, nI_add, pu_inb (show 60 * l + sz < 120 by omega) (show 120 < 2 ^ 31 by omega), if_true, nI_clamp (show 60 * l + sz < 2 ^ 31 by omega), nv_up_k _ _ (show 106 ≠ 105 by decide), nI_1, nv_up_s]
        · rw [nv_up_k _ _ (by decide), pb, gb]
          by_cases d : j = sz
          · subst d; rw [nv_up_s, if_pos rfl]
          · rw [nv_up_j _ _ (by omega), if_neg d, pk 105 (by omega) (by omega) (by omega)]; exact t4 j (by omega)
      · have : sz = 60 := by omega
        subst this
        rw [if_neg (by decide)]
        refine ⟨_, _, _, rfl, ?_, R'⟩
        simp only [t3]
        rw [if_pos (by decide)]
    · simp only [q1, q2, if_true, if_false]; exact ⟨_, _, _, rfl, rfl, R'⟩
  · simp only [q1, if_false]; exact ⟨_, _, _, rfl, rfl, R'⟩
theorem op_wipe {h : nv_Hp} (R : pu_R h) (x1 : Int32) : pu_o2 (fc_wipe h x1) (fun h1 => pm_wipe h1 x1) := by
  have R' := R
  obtain ⟨nL, nK, nB, nA, r⟩ := R
  unfold fc_wipe pm_wipe fw_clear
  simp only [pu_two]
  by_cases q1 : fc_isLaw x1 = true
  · obtain ⟨l, hl, rfl⟩ := pu_law q1
    obtain ⟨⟨sz, t1, t2, t3, t4⟩, _⟩ := r.2.2.2.2.2.2.1 l hl
    simp only [q1, if_true, pu_inb hl (show 2 < 2 ^ 31 by omega), nI_clamp (show l < 2 ^ 31 by omega), t2, nv_lt]
    obtain ⟨p, p1, p2, p3, p4, p5⟩ := fw_und_sp (h := nv_up h (59 + 3 * l) 2 0) (k0 := 59 + 3 * l) (sz := 0) (nv_up_s ..) (by omega)
    rw [show 59 + 3 * l + 1 = 60 + 3 * l by omega] at p4 p5
    rw [pu_lawc hl] at p5 p2
    have pb : p (60 + 3 * l) = nv_up h (59 + 3 * l) 2 0 (60 + 3 * l) := p2 _ (by omega) (by omega)
    have pk : ∀ k, k ≠ 59 + 3 * l → k ≠ 60 + 3 * l → k ≠ 61 + 3 * l → p k = h k := fun k a b c => by rw [p2 k a c, pu_up_c a]
    rw [p1]
    refine ⟨nI sz, p, nv_up p 106 l 0, rfl, ?_, pu_text (g := p) (sz := 0) r hl (by omega) pk (by rw [p3 2 (by decide)]; exact nv_up_s ..) (by rw [pb]; exact p4) (by rw [pb]; exact p5) (fun k a b => by rw [pu_up_c b]) (nv_up_s ..) (fun j hj => by rw [nv_up_j _ _ hj]) (fun j hj => by omega) (fun j hj => by rw [nv_up_k _ _ (by decide)])⟩
    have e106 : p 106 l = nI sz := by rw [pk 106 (by omega) (by omega) (by omega)]; exact t3
    simp only [e106]
  · simp only [q1, if_false]; exact ⟨_, _, _, rfl, rfl, R'⟩
