/-! ===== digest ===== -/
theorem hp_fold {α σ τ : Type} (F : Nat → τ → Int32 → σ → Option α) (N : Nat) (step : Nat → τ → τ) (fr : σ → Prop) (K : τ → σ → Option α)
    (hs : ∀ n s i g, i < N → fr g → ∃ g', fr g' ∧ F (n + 1) s (nI i) g = F n (step i s) (nI (i + 1)) g') (hx : ∀ n s g, fr g → F (n + 1) s (nI N) g = K s g) :
    ∀ k i n s g, i + k = N → k < n → fr g → ∃ g', fr g' ∧ F n s (nI i) g = K ((List.range' i k).foldl (fun s j => step j s) s) g' := by
  intro k
  induction k with
  | zero =>
    intro i n s g hi hn hg
    obtain ⟨n, rfl⟩ : ∃ m, n = m + 1 := ⟨n - 1, by omega⟩
    have : i = N := by omega
    subst this
    exact ⟨g, hg, hx n s g hg⟩
  | succ k ih =>
    intro i n s g hi hn hg
    obtain ⟨n, rfl⟩ : ∃ m, n = m + 1 := ⟨n - 1, by omega⟩
    obtain ⟨g', h1, h2⟩ := hs n s i g (by omega) hg
    rw [h2, List.range'_succ, List.foldl_cons]
    exact ih (i + 1) n (step i s) g' (by omega) (by omega) h1
theorem fc_count_sm {h h' : nv_Hp} {nL nK nB nA : Nat} {Q : nv_Hp → Prop} (R : pu_Rm Q h nL nK nB nA) (s : pu_sm h h') (x : Int32) : fc_count h' x = fc_count h x := by
  obtain ⟨⟨a1, a2, a3⟩, ⟨b1, b2, b3⟩, ⟨c1, c2, c3⟩, ⟨d1, d2, d3⟩, _⟩ := R.2.1
  have eo : fc_allOpen h' = fc_allOpen h := by
    rw [fc_open_sp (h := h') (nK := nK) (by rw [pu_sm_0 s (by decide)]; exact b1) b3, fc_open_sp b1 b3]
    congr 1
    apply pu_foldlc
    intro t i hi
    unfold sp_open
    rw [pu_sm_c s (by omega)]
  have ep : fc_allPurses h' = fc_allPurses h := by
    rw [fc_purses_sp, fc_purses_sp, pu_sm_c s (by decide)]
  unfold fc_count
  rw [eo, ep, pu_sm_0 s (by decide), pu_sm_0 s (by decide), pu_sm_0 s (by decide), pu_sm_0 s (by decide), pu_sm_0 s (by decide), pu_sm_c s (show ¬ (8 ≤ 59 ∧ 59 ≤ 12) ∧ _ by decide), pu_sm_c s (show ¬ (8 ≤ 62 ∧ 62 ≤ 12) ∧ _ by decide)]
def dst (f : Nat → Int32) (i : Nat) (s : Int64) : Int64 := 31 * s + (f i).toInt64
def dcn (h : nv_Hp) (i : Nat) : Int32 := (fc_count h (nI i)).getD 0
theorem dcn_sp {h : nv_Hp} (R : pu_R h) (i : Nat) : fc_count h (nI i) = some (dcn h i) ∧ pm_count h (nI i) = some (dcn h i) := by
  obtain ⟨v, e1, e2⟩ := op_count R (nI i)
  unfold dcn
  rw [e1]
  exact ⟨rfl, e2⟩
/-- one law -/
def dlw (h : nv_Hp) (l : Nat) (a : Int64) : Int64 := (List.range' 0 9).foldl (fun s j => dst (h (61 + 3 * l)) j s) (31 * a + (h (59 + 3 * l) 3).toInt64)
def dlb (h : nv_Hp) (nL nK nA l : Nat) (b : Nat) (s : Int64) : Int64 := 31 * (31 * (31 * s + (sB h nL nK nA (h (61 + 3 * l)) (sH h 0) b).toInt64) + (sW h nL nK nA (h (61 + 3 * l)) (sH h 0) b).toInt64) + (sO h nL nK nA (h (61 + 3 * l)) (sH h 0) b).toInt64
def dl (h : nv_Hp) (nL nK nB nA l : Nat) (a : Int64) : Int64 := (List.range' 0 nB).foldl (fun s b => dlb h nL nK nA l b s) (dlw h l a)
theorem fc_dlaw_sp {h : nv_Hp} {nL nK nB nA l : Nat} {Q : nv_Hp → Prop} (R : pu_Rm Q h nL nK nB nA) (a : Int64) : fc_digestLaw h a (59 + 3 * l) = some (dl h nL nK nB nA l a) := by
  obtain ⟨⟨a1, a2, a3⟩, ⟨b1, b2, b3⟩, ⟨c1, c2, c3⟩, ⟨d1, d2, d3⟩, _⟩ := R.2.1
  have ek : 59 + 3 * l + 2 = 61 + 3 * l := by omega
  have w := (pu_fold (fun n (s : Int64) x => fc_digestLaw_16 h (59 + 3 * l) n s x) 9 (fun _ _ => True) (fun j s => dst (h (61 + 3 * l)) j s) (fun s => fc_digestLaw_49 h (59 + 3 * l) nv_fu s 0) (fun n i s hi _ => ⟨by
    rw [fc_digestLaw_16, if_neg (show ¬ (9 : Int32) ≤ nI i from nI_ge (b := 9) hi (by omega)), if_pos (pu_inb (by omega) (by omega)), pu_ltE, nI_clamp (by omega), nI_1, ek]
    rfl, trivial⟩) (fun n s _ => by rw [fc_digestLaw_16, if_pos (show (9 : Int32) ≤ nI 9 by decide)]) 9 0 nv_fu (31 * a + (h (59 + 3 * l) 3).toInt64) (by omega) (show 9 < 4000 by omega) trivial).1
  have v := fun a => (pu_fold (fun n (s : Int64) x => fc_digestLaw_49 h (59 + 3 * l) n s x) nB (fun _ _ => True) (fun b s => dlb h nL nK nA l b s) some (fun n i s hi _ => ⟨by
    rw [fc_digestLaw_49, c1, if_neg (nI_ge hi (by omega)), if_pos (pu_inb (by omega) (by omega)), nI_clamp (by omega), ek, fc_why_R R (pu_sm_r h) hi, Option.bind_some, fc_bits_R R (pu_sm_r h) hi, Option.bind_some, pu_ltE, pu_ltE, fc_owed_R R (pu_sm_r h) hi, Option.bind_some, pu_ltE, nI_1]
    rfl, trivial⟩) (fun n s _ => by rw [fc_digestLaw_49, c1, if_pos (nI_le (Nat.le_refl _) (by omega))]) nB 0 nv_fu a (by omega) (show nB < 4000 by omega) trivial).1
  rw [nI_0] at w
  unfold fc_digestLaw
  rw [pu_ltE]
  refine w.trans ?_
  have v1 := v (dlw h l a)
  rw [nI_0] at v1
  exact v1
/-- the end -/
def dtb (h : nv_Hp) (nL nK nA b : Nat) : Int32 := nI ((bst (tG h nL nK nA b) 512).getD 0)
def dE (h : nv_Hp) (nL nK nB nA : Nat) (b : Nat) (s : Int64) : Int64 := 31 * (31 * s + (st_lostAt h nL nK nA (h 61) (sH h 0) b).toInt64) + (dtb h nL nK nA b).toInt64
def dP (h : nv_Hp) (nL nK nB nA : Nat) (a : Int64) : Int64 := (List.range' 0 8).foldl (fun s p => dst (st_run h nL nK nA (h 61) (sH h 0) nB) p s) a
def dall (h : nv_Hp) (nL nK nB nA : Nat) : Int64 := (List.range' 0 nB).foldl (fun s b => dE h nL nK nB nA b s) (dP h nL nK nB nA (dl h nL nK nB nA 1 (dl h nL nK nB nA 0 ((List.range' 0 8).foldl (fun s i => dst (dcn h) i s) 17))))
theorem fc_dig_sp {h : nv_Hp} {nL nK nB nA : Nat} (R : pu_Rn h nL nK nB nA) : ∃ h1, fc_digest h = some (dall h nL nK nB nA, h1) ∧ pu_sm h h1 := by
  obtain ⟨⟨a1, a2, a3⟩, ⟨b1, b2, b3⟩, ⟨c1, c2, c3⟩, ⟨d1, d2, d3⟩, _⟩ := R.2.1
  have Rh : pu_R h := ⟨nL, nK, nB, nA, R⟩
  obtain ⟨q, s1, s2, s3, s4⟩ := fc_settle_sp (k1 := 61) R (pu_sm_r h) (by omega)
  have cn := (pu_fold (fun n (s : Int64) x => fc_digest_6 h n s x) 8 (fun _ _ => True) (fun i s => dst (dcn h) i s) (fun s => fc_digest_33 h nv_fu s 0) (fun n i s hi _ => ⟨by
    rw [fc_digest_6, if_neg (show ¬ (7 : Int32) < nI i from nI_nlt (a := 7) (by omega) (by omega)), (dcn_sp Rh i).1, Option.bind_some, pu_ltE, nI_1]
    rfl, trivial⟩) (fun n s _ => by rw [fc_digest_6, if_pos (show (7 : Int32) < nI 8 by decide)]) 8 0 nv_fu 17 (by omega) (show 8 < 4000 by omega) trivial).1
  have pu := fun a => (pu_fold (fun n (s : Int64) x => fc_digest_71 q n s x) 8 (fun _ _ => True) (fun p s => dst (st_run h nL nK nA (h 61) (sH h 0) nB) p s) (fun s => fc_digest_99 nv_fu s 0 q) (fun n i s hi _ => ⟨by
    rw [fc_digest_71, if_neg (show ¬ (8 : Int32) ≤ nI i from nI_ge (b := 8) hi (by omega)), if_pos (pu_inb (by omega) (by omega)), pu_ltE, nI_clamp (by omega), nI_1, s2 i hi]
    rfl, trivial⟩) (fun n s _ => by rw [fc_digest_71, if_pos (show (8 : Int32) ≤ nI 8 by decide)]) 8 0 nv_fu a (by omega) (show 8 < 4000 by omega) trivial).1
  have smg : ∀ g : nv_Hp, (∀ c, c ≠ 10 → g c = q c) → pu_sm h g := fun g hg k j z => by
    rw [hg k (fun y => z (by unfold pu_scr; omega)), s4 k (fun y => z (by unfold pu_scr; omega)) (fun y => z (by unfold pu_scr; omega))]
  have en := fun a => hp_fold (fun n (s : Int64) x g => fc_digest_99 n s x g) nB (fun b s => dE h nL nK nB nA b s) (fun g => ∀ c, c ≠ 10 → g c = q c) (fun s g => some (s, g)) (fun n s i g hi hg => by
    obtain ⟨t, g', t1, t2, t3, t4⟩ := fc_few_sp R (smg g hg) hi
    refine ⟨g', fun c hc => (t4 c hc).trans (hg c hc), ?_⟩
    rw [fc_digest_99, pu_sm_0 (smg g hg) (by decide), c1, if_neg (nI_ge hi (by omega)), if_pos (pu_inb (by omega) (by omega)), pu_ltE, nI_clamp (by omega), hg 9 (by decide), s3 i hi, t3, Option.bind_some, pu_ltE, nI_1]
    unfold dE dtb
    rw [t2]
    rfl) (fun n s g hg => by
    rw [fc_digest_99, pu_sm_0 (smg g hg) (by decide), c1, if_pos (nI_le (Nat.le_refl _) (by omega))]) nB 0 nv_fu a q (by omega) (show nB < 4000 by omega) (fun _ _ => rfl)
  have lw : ∀ (m : Nat) (a : Int64), fc_digest_33 h (m + 3) a (nI 0) = fc_digest_71 q nv_fu (dl h nL nK nB nA 1 (dl h nL nK nB nA 0 a)) 0 := by
    intro m a
    rw [show m + 3 = (m + 2) + 1 from rfl, fc_digest_33, if_neg (by decide), if_pos (pu_inb (by omega) (by omega)), nI_clamp (by omega), fc_dlaw_sp (l := 0) R, Option.bind_some, nI_1, show m + 2 = (m + 1) + 1 from rfl, fc_digest_33, if_neg (by decide), if_pos (pu_inb (by omega) (by omega)), nI_clamp (by omega), fc_dlaw_sp (l := 1) R, Option.bind_some, nI_1, fc_digest_33, if_pos (by decide), s1, Option.bind_some]
  obtain ⟨m, em⟩ : ∃ m, nv_fu = m + 3 := ⟨3997, rfl⟩
  obtain ⟨g', e1, e2⟩ := en (dP h nL nK nB nA (dl h nL nK nB nA 1 (dl h nL nK nB nA 0 ((List.range' 0 8).foldl (fun s i => dst (dcn h) i s) 17))))
  refine ⟨g', ?_, smg g' e1⟩
  rw [nI_0] at cn e2
  unfold fc_digest
  refine cn.trans ?_
  have lw1 := lw m ((List.range' 0 8).foldl (fun s i => dst (dcn h) i s) 17)
  rw [← em, nI_0] at lw1
  refine lw1.trans ?_
  have pu1 := pu (dl h nL nK nB nA 1 (dl h nL nK nB nA 0 ((List.range' 0 8).foldl (fun s i => dst (dcn h) i s) 17)))
  rw [nI_0] at pu1
  exact pu1.trans e2
