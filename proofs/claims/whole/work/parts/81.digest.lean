/-! ===== digest: the reference ===== -/
theorem pm_dlaw_sp {h g : nv_Hp} {nL nK nB nA l : Nat} {Q : nv_Hp → Prop} (R : pu_Rm Q h nL nK nB nA) (s : pu_sm h g) (hl : l < 2) (m : Nat) (a : Int64) : ∃ g', pu_sm h g' ∧ pm_digest_33 (m + 1) a (nI l) g = pm_digest_33 m (dl h nL nK nB nA l a) (nI (l + 1)) g' := by
  obtain ⟨⟨a1, a2, a3⟩, ⟨b1, b2, b3⟩, ⟨c1, c2, c3⟩, ⟨d1, d2, d3⟩, _⟩ := R.2.1
  obtain ⟨g1, r1, r2, r3⟩ := pm_reads_R R s hl
  have w := hp_fold (fun n (s : Int64) x g => pm_digest_54 (nI l) (pm_digest_33 m) n s x g) 9 (fun j s => dst (h (61 + 3 * l)) j s) (pu_sm h) (fun s g => pm_digest_85 (nI l) (pm_digest_33 m) nv_fu s 0 g) (fun n t i g hi hg => by
    obtain ⟨g', p1, p2, _⟩ := pm_lawOf_R (j := i) R hg hl hi
    refine ⟨g', p2, ?_⟩
    rw [pm_digest_54, if_neg (show ¬ (9 : Int32) ≤ nI i from nI_ge (b := 9) hi (by omega)), if_pos (pu_inb hl (by omega)), p1, Option.bind_some, pu_ltE, nI_1]
    rfl) (fun n t g _ => by rw [pm_digest_54, if_pos (show (9 : Int32) ≤ nI 9 by decide)]) 9 0 nv_fu (31 * a + (h (59 + 3 * l) 3).toInt64) g1 (by omega) (show 9 < 4000 by omega) (pu_sm_t s (pu_sm_fm r2))
  obtain ⟨g2, w1, w2⟩ := w
  have v := hp_fold (fun n (s : Int64) x g => pm_digest_85 (nI l) (pm_digest_33 m) n s x g) nB (fun b s => dlb h nL nK nA l b s) (pu_sm h) (fun s g => pm_digest_33 m s (nI (l + 1)) g) (fun n t i g hi hg => by
    obtain ⟨u1, p1, p2, _⟩ := pm_boundOf_R R hg hl hi 0
    obtain ⟨u2, p3, p4, _⟩ := pm_boundOf_R R p2 hl hi 1
    obtain ⟨u3, p5, p6, _⟩ := pm_owesOf_R R p4 hl hi
    rw [if_pos rfl] at p1
    rw [if_neg (by decide)] at p3
    refine ⟨u3, p6, ?_⟩
    rw [pm_digest_85, pu_sm_73 hg (by decide), c2, if_neg (nI_ge hi (by omega)), if_pos (pu_inb hl (by omega)), if_pos (pu_inb (by omega) (by omega)), p1, Option.bind_some, pu_ltE, p3, Option.bind_some, pu_ltE, p5, Option.bind_some, pu_ltE, nI_1]
    rfl) (fun n t g hg => by
    rw [pm_digest_85, pu_sm_73 hg (by decide), c2, if_pos (nI_le (Nat.le_refl _) (by omega)), nI_1]) nB 0 nv_fu (dlw h l a) g2 (by omega) (show nB < 4000 by omega) w1
  obtain ⟨g3, v1, v2⟩ := v
  refine ⟨g3, v1, ?_⟩
  rw [nI_0] at w2 v2
  have n2 : ¬ (2 : Int32) ≤ nI l := nI_ge (b := 2) hl (by omega)
  rw [pm_digest_33, if_neg n2, if_pos (pu_inb hl (by omega)), r1, Option.bind_some, pu_ltE]
  exact w2.trans v2
theorem pm_dig_sp {h g : nv_Hp} {nL nK nB nA : Nat} (R : pu_Rn h nL nK nB nA) (s : pu_sm h g) : ∃ h2, pm_digest g = some (dall h nL nK nB nA, h2) ∧ pu_sm h h2 := by
  obtain ⟨⟨a1, a2, a3⟩, ⟨b1, b2, b3⟩, ⟨c1, c2, c3⟩, ⟨d1, d2, d3⟩, _⟩ := R.2.1
  have Rg : pu_R g := ⟨nL, nK, nB, nA, pu_Rn_sm R s⟩
  have ecn : ∀ i, dcn g i = dcn h i := fun i => by unfold dcn; rw [fc_count_sm R s]
  have cn := (pu_fold (fun n (s : Int64) x => pm_digest_6 g n s x) 8 (fun _ _ => True) (fun i s => dst (dcn h) i s) (fun s => pm_digest_33 nv_fu s 0 g) (fun n i s hi _ => ⟨by
    rw [pm_digest_6, if_neg (show ¬ (8 : Int32) ≤ nI i from nI_ge (b := 8) hi (by omega)), (dcn_sp Rg i).2, Option.bind_some, pu_ltE, nI_1, ecn]
    rfl, trivial⟩) (fun n s _ => by rw [pm_digest_6, if_pos (show (8 : Int32) ≤ nI 8 by decide)]) 8 0 nv_fu 17 (by omega) (show 8 < 4000 by omega) trivial).1
  obtain ⟨m, em⟩ : ∃ m, nv_fu = m + 3 := ⟨3997, rfl⟩
  obtain ⟨g1, x1, x2⟩ := pm_dlaw_sp (l := 0) R s (by omega) (m + 2) ((List.range' 0 8).foldl (fun s i => dst (dcn h) i s) 17)
  obtain ⟨g2, y1, y2⟩ := pm_dlaw_sp (l := 1) R x1 (by omega) (m + 1) (dl h nL nK nB nA 0 ((List.range' 0 8).foldl (fun s i => dst (dcn h) i s) 17))
  obtain ⟨q, f1, f2, f3, f4⟩ := pm_findEnd_sp (l := 0) R y1 (by omega)
  have f1' : pm_findEnd g2 0 = some q := f1
  have f2' : ∀ z, z < 8 → q 109 z = st_run h nL nK nA (h 61) (sH h 0) nB z := f2
  have f3' : ∀ b, b < nB → q 110 b = st_lostAt h nL nK nA (h 61) (sH h 0) b := f3
  generalize ea : dl h nL nK nB nA 1 (dl h nL nK nB nA 0 ((List.range' 0 8).foldl (fun s i => dst (dcn h) i s) 17)) = a at y2
  have pu := (pu_fold (fun n (s : Int64) x => pm_digest_160 q n s x) 8 (fun _ _ => True) (fun p s => dst (st_run h nL nK nA (h 61) (sH h 0) nB) p s) (fun s => pm_digest_188 nv_fu s 0 q) (fun n i s hi _ => ⟨by
    rw [pm_digest_160, if_neg (show ¬ (8 : Int32) ≤ nI i from nI_ge (b := 8) hi (by omega)), if_pos (pu_inb (by omega) (by omega)), pu_ltE, nI_clamp (by omega), nI_1, f2' i hi]
    rfl, trivial⟩) (fun n s _ => by rw [pm_digest_160, if_pos (show (8 : Int32) ≤ nI 8 by decide)]) 8 0 nv_fu a (by omega) (show 8 < 4000 by omega) trivial).1
  have en := hp_fold (fun n (s : Int64) x g => pm_digest_188 n s x g) nB (fun b s => dE h nL nK nB nA b s) (fun u => pu_sm h u ∧ u 110 = q 110) (fun s u => some (s, u)) (fun n s i u hi hu => by
    obtain ⟨t, _, _, t2, _, _⟩ := fc_few_sp R (pu_sm_r h) hi
    obtain ⟨u', p1, p2, p3⟩ := pm_trn_sp R hu.1 hi t2
    refine ⟨u', ⟨p2, (p3 110 (by decide)).trans hu.2⟩, ?_⟩
    rw [pm_digest_188, pu_sm_73 hu.1 (by decide), c2, if_neg (nI_ge hi (by omega)), if_pos (pu_inb (by omega) (by omega)), pu_ltE, nI_clamp (by omega), hu.2, f3' i hi, p1, Option.bind_some, pu_ltE, nI_1]
    unfold dE dtb
    rw [t2]
    rfl) (fun n s u hu => by
    rw [pm_digest_188, pu_sm_73 hu.1 (by decide), c2, if_pos (nI_le (Nat.le_refl _) (by omega))]) nB 0 nv_fu (dP h nL nK nB nA a) q (by omega) (show nB < 4000 by omega) ⟨f4, rfl⟩
  obtain ⟨g3, z1, z2⟩ := en
  refine ⟨g3, ?_, z1.1⟩
  rw [nI_0] at cn pu z2
  have fin : pm_digest_33 (m + 1) a (nI (1 + 1)) g2 = pm_digest_160 q nv_fu a 0 := by
    rw [pm_digest_33, if_pos (by decide), f1', Option.bind_some]
  unfold pm_digest
  refine cn.trans ?_
  have x2' : pm_digest_33 nv_fu ((List.range' 0 8).foldl (fun s i => dst (dcn h) i s) 17) 0 g = pm_digest_33 (m + 2) (dl h nL nK nB nA 0 ((List.range' 0 8).foldl (fun s i => dst (dcn h) i s) 17)) (nI (0 + 1)) g1 := by
    rw [em]; exact x2
  refine x2'.trans (y2.trans (fin.trans (pu.trans ?_)))
  unfold dall
  rw [ea]
  exact z2
theorem op_digest {h : nv_Hp} (R : pu_R h) : ∃ v h1 h2, fc_digest h = some (v, h1) ∧ pm_digest h1 = some (v, h2) ∧ pu_R h2 := by
  have R' := R
  obtain ⟨nL, nK, nB, nA, r⟩ := R
  obtain ⟨h1, e1, s1⟩ := fc_dig_sp r
  obtain ⟨h2, e2, s2⟩ := pm_dig_sp r s1
  exact ⟨_, h1, h2, e1, e2, pu_R_sm R' s2⟩
