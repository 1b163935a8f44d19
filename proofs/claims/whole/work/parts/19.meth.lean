/-! WhoseNameModel.end -/
theorem dX7_end_0 : nv_diload qX7_end 0 1 1 := Or.inr ⟨1, rfl, by decide +kernel, rfl⟩
theorem dX7_end_1 : nv_dc qX7_end 1 (.invokestatic 171) 3 4 := ⟨by decide +kernel, rfl⟩
theorem dX7_end_4 : nv_dif qX7_end 4 .eq 36 7 := ⟨32, by decide +kernel, by decide, rfl⟩
theorem dX7_end_7 : nv_diload qX7_end 7 2 8 := Or.inr ⟨2, rfl, by decide +kernel, rfl⟩
theorem dX7_end_8 : nv_dc qX7_end 8 (.invokestatic 171) 3 11 := ⟨by decide +kernel, rfl⟩
theorem dX7_end_11 : nv_dif qX7_end 11 .eq 36 14 := ⟨25, by decide +kernel, by decide, rfl⟩
theorem dX7_end_14 : nv_diload qX7_end 14 2 15 := Or.inr ⟨2, rfl, by decide +kernel, rfl⟩
theorem dX7_end_15 : nv_dif qX7_end 15 .ne 28 18 := ⟨13, by decide +kernel, by decide, rfl⟩
theorem dX7_end_18 : nv_diload qX7_end 18 3 19 := Or.inr ⟨3, rfl, by decide +kernel, rfl⟩
theorem dX7_end_19 : nv_dc qX7_end 19 (.invokestatic 160) 3 22 := ⟨by decide +kernel, rfl⟩
theorem dX7_end_22 : nv_dif qX7_end 22 .eq 36 25 := ⟨14, by decide +kernel, by decide, rfl⟩
theorem dX7_end_25 : nv_dgo qX7_end 25 39 := ⟨14, by decide +kernel, by decide⟩
theorem dX7_end_28 : nv_daload qX7_end 28 0 29 := Or.inr ⟨0, rfl, by decide +kernel, rfl⟩
theorem dX7_end_29 : nv_diload qX7_end 29 3 30 := Or.inr ⟨3, rfl, by decide +kernel, rfl⟩
theorem dX7_end_30 : nv_dc qX7_end 30 (.invokevirtual 204) 3 33 := ⟨by decide +kernel, rfl⟩
theorem dX7_end_33 : nv_dif qX7_end 33 .ne 39 36 := ⟨6, by decide +kernel, by decide, rfl⟩
theorem dX7_end_36 : nv_dk qX7_end 36 (-2) 38 := Or.inr (Or.inl ⟨(-2), ⟨by decide +kernel, rfl⟩, by decide⟩)
theorem dX7_end_38 : decode qX7_end.2.1 38 = .ok (.ireturn, 1) := by decide +kernel
theorem dX7_end_39 : nv_daload qX7_end 39 0 40 := Or.inr ⟨0, rfl, by decide +kernel, rfl⟩
theorem dX7_end_40 : nv_diload qX7_end 40 1 41 := Or.inr ⟨1, rfl, by decide +kernel, rfl⟩
theorem dX7_end_41 : nv_dc qX7_end 41 (.invokevirtual 292) 3 44 := ⟨by decide +kernel, rfl⟩
theorem dX7_end_44 : nv_diload qX7_end 44 2 45 := Or.inr ⟨2, rfl, by decide +kernel, rfl⟩
theorem dX7_end_45 : nv_dif qX7_end 45 .ne 57 48 := ⟨12, by decide +kernel, by decide, rfl⟩
theorem dX7_end_48 : nv_daload qX7_end 48 0 49 := Or.inr ⟨0, rfl, by decide +kernel, rfl⟩
theorem dX7_end_49 : nv_dc qX7_end 49 (.getfield 115) 3 52 := ⟨by decide +kernel, rfl⟩
theorem dX7_end_52 : nv_diload qX7_end 52 3 53 := Or.inr ⟨3, rfl, by decide +kernel, rfl⟩
theorem dX7_end_53 : nv_dc qX7_end 53 (.iaload) 1 54 := ⟨by decide +kernel, rfl⟩
theorem dX7_end_54 : nv_dgo qX7_end 54 63 := ⟨9, by decide +kernel, by decide⟩
theorem dX7_end_57 : nv_daload qX7_end 57 0 58 := Or.inr ⟨0, rfl, by decide +kernel, rfl⟩
theorem dX7_end_58 : nv_dc qX7_end 58 (.getfield 118) 3 61 := ⟨by decide +kernel, rfl⟩
theorem dX7_end_61 : nv_diload qX7_end 61 3 62 := Or.inr ⟨3, rfl, by decide +kernel, rfl⟩
theorem dX7_end_62 : nv_dc qX7_end 62 (.iaload) 1 63 := ⟨by decide +kernel, rfl⟩
theorem dX7_end_63 : decode qX7_end.2.1 63 = .ok (.ireturn, 1) := by decide +kernel
def pm_end_39 (h : nv_Hp) (x1 : Int32) (x2 : Int32) (x3 : Int32)   : Option (Int32 × nv_Hp) := (if nv_inb x1 2 = true then (Option.bind (pm_findEnd h x1) fun q2 => (if x2 = 0 then (if nv_inb x3 8 = true then some ((q2 109 x3.toNatClampNeg), q2) else none) else (if nv_inb x3 10 = true then some ((q2 110 x3.toNatClampNeg), q2) else none))) else none)
set_option maxHeartbeats 2000000 in
theorem tm_end_39 (G : nv_G) (h : nv_Hp) (x1 : Int32) (x2 : Int32) (x3 : Int32)   (r : Int32 × nv_Hp) (hf : pm_end_39 h x1 x2 x3 = some r) : nv_E G 9 qX7_end 39 [some (.ref 73), some (.int x1), some (.int x2), some (.int x3)] [] (nv_s h) (some (.int r.1), nv_s r.2) := by
  unfold pm_end_39 at hf
  refine nv_aL dX7_end_39 rfl ?_
  refine nv_iL dX7_end_40 rfl ?_
  obtain ⟨g1, hf⟩ := nv_gd hf
  obtain ⟨q2, hq2, hf⟩ := nv_bd hf
  refine nv_cVv (tm_findEnd G h x1 g1 hq2) dX7_end_41 lm_X7_292 y_qX7_findEnd ko_73 rfl rfl (by decide) rfl (Nat.le_of_ble_eq_true rfl) ?_
  refine nv_iL dX7_end_44 rfl ?_
  refine nv_ifne dX7_end_45 (fun c3 => ?_) (fun c3 => ?_)
  · replace hf := nv_ip c3 hf
    refine nv_aL dX7_end_48 rfl ?_
    refine nv_tR lf_X7_115 dX7_end_49 ko_73 rfl ?_
    refine nv_iL dX7_end_52 rfl ?_
    obtain ⟨g4, hf⟩ := nv_gd hf
    refine nv_aI dX7_end_53 ka_109 g4 rfl ?_
    refine nv_goto dX7_end_54 ?_
    obtain rfl := Option.some.inj hf
    exact nv_ireturnI dX7_end_63 rfl
  · replace hf := nv_in c3 hf
    refine nv_aL dX7_end_57 rfl ?_
    refine nv_tR lf_X7_118 dX7_end_58 ko_73 rfl ?_
    refine nv_iL dX7_end_61 rfl ?_
    obtain ⟨g5, hf⟩ := nv_gd hf
    refine nv_aI dX7_end_62 ka_110 g5 rfl ?_
    obtain rfl := Option.some.inj hf
    exact nv_ireturnI dX7_end_63 rfl
def pm_end (h : nv_Hp) (x1 : Int32) (x2 : Int32) (x3 : Int32) : Option (Int32 × nv_Hp) := (if (pm_isTwo x1) = true then (if (pm_isTwo x2) = true then (if x2 = 0 then (if (pm_isPerson x3) = true then (pm_end_39 h x1 x2 x3) else some ((-2), h)) else (if (pm_isBargain h x3) = true then (pm_end_39 h x1 x2 x3) else some ((-2), h))) else some ((-2), h)) else some ((-2), h))
set_option maxHeartbeats 2000000 in
theorem tm_end (G : nv_G) (h : nv_Hp) (x1 : Int32) (x2 : Int32) (x3 : Int32) {r : Int32 × nv_Hp} (hf : (pm_end h x1 x2 x3) = some r) : nv_Mt G 9 qX7_end [.ref 73, .int x1, .int x2, .int x3] (nv_s h) (some (.int r.1), nv_s r.2) := by
  refine nv_of (by decide +kernel) (fun ad => Nat.le_of_ble_eq_true rfl) (Nat.le_refl _) (Nat.le_of_ble_eq_true rfl) ?_
  show nv_E G 9 qX7_end 0 [some (.ref 73), some (.int x1), some (.int x2), some (.int x3)] [] (nv_s h) (some (.int r.1), nv_s r.2)
  unfold pm_end at hf
  refine nv_iL dX7_end_0 rfl ?_
  refine nv_cSi (tm_isTwo G h x1) dX7_end_1 lm_X7_171 y_qX7_isTwo rfl (by decide) rfl (Nat.le_of_ble_eq_true rfl) ?_
  refine nv_ifeqB dX7_end_4 (fun c1 => ?_) (fun c1 => ?_)
  · replace hf := nv_ip c1 hf
    refine nv_iL dX7_end_7 rfl ?_
    refine nv_cSi (tm_isTwo G h x2) dX7_end_8 lm_X7_171 y_qX7_isTwo rfl (by decide) rfl (Nat.le_of_ble_eq_true rfl) ?_
    refine nv_ifeqB dX7_end_11 (fun c2 => ?_) (fun c2 => ?_)
    · replace hf := nv_ip c2 hf
      refine nv_iL dX7_end_14 rfl ?_
      refine nv_ifne dX7_end_15 (fun c3 => ?_) (fun c3 => ?_)
      · replace hf := nv_ip c3 hf
        refine nv_iL dX7_end_18 rfl ?_
        refine nv_cSi (tm_isPerson G h x3) dX7_end_19 lm_X7_160 y_qX7_isPerson rfl (by decide) rfl (Nat.le_of_ble_eq_true rfl) ?_
        refine nv_ifeqB dX7_end_22 (fun c4 => ?_) (fun c4 => ?_)
        · replace hf := nv_ip c4 hf
          refine nv_goto dX7_end_25 ?_
          exact tm_end_39 G _ _ _ _ _ hf
        · replace hf := nv_in c4 hf
          refine nv_k dX7_end_36 ?_
          obtain rfl := Option.some.inj hf
          exact nv_ireturnI dX7_end_38 rfl
      · replace hf := nv_in c3 hf
        refine nv_aL dX7_end_28 rfl ?_
        refine nv_iL dX7_end_29 rfl ?_
        refine nv_cVi (tm_isBargain G h x3) dX7_end_30 lm_X7_204 y_qX7_isBargain ko_73 rfl rfl (by decide) rfl (Nat.le_of_ble_eq_true rfl) ?_
        refine nv_ifneB dX7_end_33 (fun c5 => ?_) (fun c5 => ?_)
        · replace hf := nv_ip c5 hf
          exact tm_end_39 G _ _ _ _ _ hf
        · replace hf := nv_in c5 hf
          refine nv_k dX7_end_36 ?_
          obtain rfl := Option.some.inj hf
          exact nv_ireturnI dX7_end_38 rfl
    · replace hf := nv_in c2 hf
      refine nv_k dX7_end_36 ?_
      obtain rfl := Option.some.inj hf
      exact nv_ireturnI dX7_end_38 rfl
  · replace hf := nv_in c1 hf
    refine nv_k dX7_end_36 ?_
    obtain rfl := Option.some.inj hf
    exact nv_ireturnI dX7_end_38 rfl
/-! WhoseNameModel.findOpen -/
theorem dX7_findOpen_0 : nv_daload qX7_findOpen 0 0 1 := Or.inr ⟨0, rfl, by decide +kernel, rfl⟩
theorem dX7_findOpen_1 : nv_dk qX7_findOpen 1 0 2 := Or.inl ⟨0, ⟨by decide +kernel, rfl⟩, by decide⟩
theorem dX7_findOpen_2 : nv_dc qX7_findOpen 2 (.putfield 295) 3 5 := ⟨by decide +kernel, rfl⟩
theorem dX7_findOpen_5 : nv_dk qX7_findOpen 5 0 6 := Or.inl ⟨0, ⟨by decide +kernel, rfl⟩, by decide⟩
theorem dX7_findOpen_6 : nv_distore qX7_findOpen 6 1 7 := Or.inr ⟨1, rfl, by decide +kernel, rfl⟩
theorem dX7_findOpen_7 : nv_diload qX7_findOpen 7 1 8 := Or.inr ⟨1, rfl, by decide +kernel, rfl⟩
theorem dX7_findOpen_8 : nv_daload qX7_findOpen 8 0 9 := Or.inr ⟨0, rfl, by decide +kernel, rfl⟩
theorem dX7_findOpen_9 : nv_dc qX7_findOpen 9 (.getfield 189) 3 12 := ⟨by decide +kernel, rfl⟩
theorem dX7_findOpen_12 : nv_dic qX7_findOpen 12 .ge 60 15 := ⟨48, by decide +kernel, by decide, rfl⟩
theorem dX7_findOpen_15 : nv_daload qX7_findOpen 15 0 16 := Or.inr ⟨0, rfl, by decide +kernel, rfl⟩
theorem dX7_findOpen_16 : nv_dc qX7_findOpen 16 (.getfield 295) 3 19 := ⟨by decide +kernel, rfl⟩
theorem dX7_findOpen_19 : nv_dk qX7_findOpen 19 6 21 := Or.inr (Or.inl ⟨6, ⟨by decide +kernel, rfl⟩, by decide⟩)
theorem dX7_findOpen_21 : nv_dic qX7_findOpen 21 .ge 60 24 := ⟨39, by decide +kernel, by decide, rfl⟩
theorem dX7_findOpen_24 : nv_daload qX7_findOpen 24 0 25 := Or.inr ⟨0, rfl, by decide +kernel, rfl⟩
theorem dX7_findOpen_25 : nv_dc qX7_findOpen 25 (.getfield 64) 3 28 := ⟨by decide +kernel, rfl⟩
theorem dX7_findOpen_28 : nv_diload qX7_findOpen 28 1 29 := Or.inr ⟨1, rfl, by decide +kernel, rfl⟩
theorem dX7_findOpen_29 : nv_dc qX7_findOpen 29 (.iaload) 1 30 := ⟨by decide +kernel, rfl⟩
theorem dX7_findOpen_30 : nv_dk qX7_findOpen 30 (-1) 31 := Or.inl ⟨(-1), ⟨by decide +kernel, rfl⟩, by decide⟩
theorem dX7_findOpen_31 : nv_dic qX7_findOpen 31 .ne 54 34 := ⟨23, by decide +kernel, by decide, rfl⟩
theorem dX7_findOpen_34 : nv_daload qX7_findOpen 34 0 35 := Or.inr ⟨0, rfl, by decide +kernel, rfl⟩
theorem dX7_findOpen_35 : nv_dc qX7_findOpen 35 (.getfield 121) 3 38 := ⟨by decide +kernel, rfl⟩
theorem dX7_findOpen_38 : nv_daload qX7_findOpen 38 0 39 := Or.inr ⟨0, rfl, by decide +kernel, rfl⟩
theorem dX7_findOpen_39 : nv_dc qX7_findOpen 39 (.getfield 295) 3 42 := ⟨by decide +kernel, rfl⟩
theorem dX7_findOpen_42 : nv_diload qX7_findOpen 42 1 43 := Or.inr ⟨1, rfl, by decide +kernel, rfl⟩
theorem dX7_findOpen_43 : nv_dc qX7_findOpen 43 (.iastore) 1 44 := ⟨by decide +kernel, rfl⟩
theorem dX7_findOpen_44 : nv_daload qX7_findOpen 44 0 45 := Or.inr ⟨0, rfl, by decide +kernel, rfl⟩
theorem dX7_findOpen_45 : nv_dc qX7_findOpen 45 (.dup) 1 46 := ⟨by decide +kernel, rfl⟩
theorem dX7_findOpen_46 : nv_dc qX7_findOpen 46 (.getfield 295) 3 49 := ⟨by decide +kernel, rfl⟩
theorem dX7_findOpen_49 : nv_dk qX7_findOpen 49 1 50 := Or.inl ⟨1, ⟨by decide +kernel, rfl⟩, by decide⟩
theorem dX7_findOpen_50 : nv_dc qX7_findOpen 50 (.iadd) 1 51 := ⟨by decide +kernel, rfl⟩
theorem dX7_findOpen_51 : nv_dc qX7_findOpen 51 (.putfield 295) 3 54 := ⟨by decide +kernel, rfl⟩
theorem dX7_findOpen_54 : nv_dc qX7_findOpen 54 (.iinc 1 1) 3 57 := ⟨by decide +kernel, rfl⟩
theorem dX7_findOpen_57 : nv_dgo qX7_findOpen 57 7 := ⟨(-50), by decide +kernel, by decide⟩
theorem dX7_findOpen_60 : decode qX7_findOpen.2.1 60 = .ok (.return_, 1) := by decide +kernel
def pm_findOpen_7    : Nat → Int32 → nv_Hp → Option (nv_Hp)
  | 0, _, _ => none
  | n + 1, x1, h => (if (h 73 17) ≤ x1 then some h else (if 6 ≤ (h 73 45) then some h else (if nv_inb x1 12 = true then (Option.bind ((if (h 92 x1.toNatClampNeg) = (-1) then (if nv_inb (h 73 45) 6 = true then some ((nv_up (nv_up h 111 (h 73 45).toNatClampNeg x1) 73 45 (((nv_up h 111 (h 73 45).toNatClampNeg x1) 73 45) + 1))) else none) else some (h)) : Option (nv_Hp)) fun u5 => (pm_findOpen_7 n) (x1 + 1) u5) else none)))
set_option maxHeartbeats 2000000 in
theorem tm_findOpen_7 (G : nv_G)    : ∀ (n : Nat) (x1 : Int32) (h : nv_Hp) (r : nv_Hp), pm_findOpen_7 n x1 h = some r → nv_E G 0 qX7_findOpen 7 [some (.ref 73), some (.int x1)] [] (nv_s h) (none, nv_s r) := by
  intro n
  induction n with
  | zero =>
    intro x1 h r hf
    rw [pm_findOpen_7] at hf
    cases hf
  | succ n ih =>
    intro x1 h r hf
    rw [pm_findOpen_7] at hf
    refine nv_iL dX7_findOpen_7 rfl ?_
    refine nv_aL dX7_findOpen_8 rfl ?_
    refine nv_tI lf_X7_189 dX7_findOpen_9 ko_73 rfl ?_
    refine nv_icge dX7_findOpen_12 (fun c1 => ?_) (fun c1 => ?_)
    · replace hf := nv_ip c1 hf
      obtain rfl := Option.some.inj hf
      exact nv_return dX7_findOpen_60 rfl
    · replace hf := nv_in c1 hf
      refine nv_aL dX7_findOpen_15 rfl ?_
      refine nv_tI lf_X7_295 dX7_findOpen_16 ko_73 rfl ?_
      refine nv_k dX7_findOpen_19 ?_
      refine nv_icge dX7_findOpen_21 (fun c2 => ?_) (fun c2 => ?_)
      · replace hf := nv_ip c2 hf
        obtain rfl := Option.some.inj hf
        exact nv_return dX7_findOpen_60 rfl
      · replace hf := nv_in c2 hf
        refine nv_aL dX7_findOpen_24 rfl ?_
        refine nv_tR lf_X7_64 dX7_findOpen_25 ko_73 rfl ?_
        refine nv_iL dX7_findOpen_28 rfl ?_
        obtain ⟨g3, hf⟩ := nv_gd hf
        refine nv_aI dX7_findOpen_29 ka_92 g3 rfl ?_
        refine nv_k dX7_findOpen_30 ?_
        refine nv_icne dX7_findOpen_31 (fun c6 => ?_) (fun c6 => ?_)
        · try simp only [if_pos c6, Option.bind_some] at hf
          refine nv_aL dX7_findOpen_34 rfl ?_
          refine nv_tR lf_X7_121 dX7_findOpen_35 ko_73 rfl ?_
          refine nv_aL dX7_findOpen_38 rfl ?_
          refine nv_tI lf_X7_295 dX7_findOpen_39 ko_73 rfl ?_
          refine nv_iL dX7_findOpen_42 rfl ?_
          have g7 : nv_inb (h 73 45) 6 = true := by
            by_cases g7 : nv_inb (h 73 45) 6 = true
            · exact g7
            · exfalso; simp [if_neg g7] at hf
          simp only [if_pos g7, Option.bind_some] at hf
          refine nv_aP dX7_findOpen_43 ka_111 g7 rfl ?_
          refine nv_aL dX7_findOpen_44 rfl ?_
          refine nv_dup dX7_findOpen_45 rfl ?_
          refine nv_tI lf_X7_295 dX7_findOpen_46 ko_73 rfl ?_
          refine nv_k dX7_findOpen_49 ?_
          refine nv_iadd dX7_findOpen_50 ?_
          refine nv_tP lp_X7_295 dX7_findOpen_51 ko_73 rfl ?_
          refine nv_inc dX7_findOpen_54 rfl (v := 1) (by decide) (by decide) rfl rfl ?_
          refine nv_goto dX7_findOpen_57 ?_
          exact ih _ _ _ hf
        · try simp only [if_neg c6, Option.bind_some] at hf
          refine nv_inc dX7_findOpen_54 rfl (v := 1) (by decide) (by decide) rfl rfl ?_
          refine nv_goto dX7_findOpen_57 ?_
          exact ih _ _ _ hf
def pm_findOpen (h : nv_Hp)  : Option (nv_Hp) := (nv_lt (nv_up h 73 45 0) fun h1 => (pm_findOpen_7 nv_fu 0 h1))
set_option maxHeartbeats 2000000 in
theorem tm_findOpen (G : nv_G) (h : nv_Hp)  {r : nv_Hp} (hf : (pm_findOpen h) = some r) : nv_Mt G 0 qX7_findOpen [.ref 73] (nv_s h) (none, nv_s r) := by
  refine nv_of (by decide +kernel) (fun ad => Nat.le_of_ble_eq_true rfl) (Nat.le_refl _) (Nat.le_of_ble_eq_true rfl) ?_
  show nv_E G 0 qX7_findOpen 0 [some (.ref 73), none] [] (nv_s h) (none, nv_s r)
  unfold pm_findOpen at hf
  refine nv_aL dX7_findOpen_0 rfl ?_
  refine nv_k dX7_findOpen_1 ?_
  refine nv_tP lp_X7_295 dX7_findOpen_2 ko_73 rfl ?_
  obtain ⟨h1, eh1, hf⟩ := nv_ltX hf
  rw [eh1]
  clear eh1
  refine nv_k dX7_findOpen_5 ?_
  refine nv_iS dX7_findOpen_6 (by decide) rfl rfl ?_
  exact tm_findOpen_7 G _ _ _ _ hf
/-! WhoseNameModel.findWays -/
theorem dX7_findWays_0 : nv_daload qX7_findWays 0 0 1 := Or.inr ⟨0, rfl, by decide +kernel, rfl⟩
theorem dX7_findWays_1 : nv_diload qX7_findWays 1 1 2 := Or.inr ⟨1, rfl, by decide +kernel, rfl⟩
theorem dX7_findWays_2 : nv_dc qX7_findWays 2 (.invokevirtual 268) 3 5 := ⟨by decide +kernel, rfl⟩
theorem dX7_findWays_5 : nv_daload qX7_findWays 5 0 6 := Or.inr ⟨0, rfl, by decide +kernel, rfl⟩
theorem dX7_findWays_6 : nv_dc qX7_findWays 6 (.invokevirtual 298) 3 9 := ⟨by decide +kernel, rfl⟩
theorem dX7_findWays_9 : nv_dk qX7_findWays 9 0 10 := Or.inl ⟨0, ⟨by decide +kernel, rfl⟩, by decide⟩
theorem dX7_findWays_10 : nv_distore qX7_findWays 10 3 11 := Or.inr ⟨3, rfl, by decide +kernel, rfl⟩
theorem dX7_findWays_11 : nv_diload qX7_findWays 11 3 12 := Or.inr ⟨3, rfl, by decide +kernel, rfl⟩
theorem dX7_findWays_12 : nv_dk qX7_findWays 12 1 13 := Or.inl ⟨1, ⟨by decide +kernel, rfl⟩, by decide⟩
theorem dX7_findWays_13 : nv_daload qX7_findWays 13 0 14 := Or.inr ⟨0, rfl, by decide +kernel, rfl⟩
theorem dX7_findWays_14 : nv_dc qX7_findWays 14 (.getfield 295) 3 17 := ⟨by decide +kernel, rfl⟩
theorem dX7_findWays_17 : nv_dc qX7_findWays 17 (.ishl) 1 18 := ⟨by decide +kernel, rfl⟩
theorem dX7_findWays_18 : nv_dic qX7_findWays 18 .ge 95 21 := ⟨77, by decide +kernel, by decide, rfl⟩
theorem dX7_findWays_21 : nv_dk qX7_findWays 21 0 22 := Or.inl ⟨0, ⟨by decide +kernel, rfl⟩, by decide⟩
theorem dX7_findWays_22 : nv_distore qX7_findWays 22 4 24 := Or.inl ⟨by decide +kernel, rfl⟩
theorem dX7_findWays_24 : nv_diload qX7_findWays 24 4 26 := Or.inl ⟨by decide +kernel, rfl⟩
theorem dX7_findWays_26 : nv_daload qX7_findWays 26 0 27 := Or.inr ⟨0, rfl, by decide +kernel, rfl⟩
theorem dX7_findWays_27 : nv_dc qX7_findWays 27 (.getfield 295) 3 30 := ⟨by decide +kernel, rfl⟩
theorem dX7_findWays_30 : nv_dic qX7_findWays 30 .ge 78 33 := ⟨48, by decide +kernel, by decide, rfl⟩
theorem dX7_findWays_33 : nv_daload qX7_findWays 33 0 34 := Or.inr ⟨0, rfl, by decide +kernel, rfl⟩
theorem dX7_findWays_34 : nv_dc qX7_findWays 34 (.getfield 67) 3 37 := ⟨by decide +kernel, rfl⟩
theorem dX7_findWays_37 : nv_daload qX7_findWays 37 0 38 := Or.inr ⟨0, rfl, by decide +kernel, rfl⟩
theorem dX7_findWays_38 : nv_dc qX7_findWays 38 (.getfield 121) 3 41 := ⟨by decide +kernel, rfl⟩
theorem dX7_findWays_41 : nv_diload qX7_findWays 41 4 43 := Or.inl ⟨by decide +kernel, rfl⟩
theorem dX7_findWays_43 : nv_dc qX7_findWays 43 (.iaload) 1 44 := ⟨by decide +kernel, rfl⟩
theorem dX7_findWays_44 : nv_diload qX7_findWays 44 3 45 := Or.inr ⟨3, rfl, by decide +kernel, rfl⟩
theorem dX7_findWays_45 : nv_diload qX7_findWays 45 4 47 := Or.inl ⟨by decide +kernel, rfl⟩
theorem dX7_findWays_47 : nv_dc qX7_findWays 47 (.ishr) 1 48 := ⟨by decide +kernel, rfl⟩
theorem dX7_findWays_48 : nv_dk qX7_findWays 48 1 49 := Or.inl ⟨1, ⟨by decide +kernel, rfl⟩, by decide⟩
theorem dX7_findWays_49 : nv_dc qX7_findWays 49 (.iand) 1 50 := ⟨by decide +kernel, rfl⟩
theorem dX7_findWays_50 : nv_dk qX7_findWays 50 1 51 := Or.inl ⟨1, ⟨by decide +kernel, rfl⟩, by decide⟩
theorem dX7_findWays_51 : nv_dic qX7_findWays 51 .ne 69 54 := ⟨18, by decide +kernel, by decide, rfl⟩
theorem dX7_findWays_54 : nv_daload qX7_findWays 54 0 55 := Or.inr ⟨0, rfl, by decide +kernel, rfl⟩
theorem dX7_findWays_55 : nv_dc qX7_findWays 55 (.getfield 58) 3 58 := ⟨by decide +kernel, rfl⟩
theorem dX7_findWays_58 : nv_daload qX7_findWays 58 0 59 := Or.inr ⟨0, rfl, by decide +kernel, rfl⟩
theorem dX7_findWays_59 : nv_dc qX7_findWays 59 (.getfield 121) 3 62 := ⟨by decide +kernel, rfl⟩
theorem dX7_findWays_62 : nv_diload qX7_findWays 62 4 64 := Or.inl ⟨by decide +kernel, rfl⟩
theorem dX7_findWays_64 : nv_dc qX7_findWays 64 (.iaload) 1 65 := ⟨by decide +kernel, rfl⟩
theorem dX7_findWays_65 : nv_dc qX7_findWays 65 (.iaload) 1 66 := ⟨by decide +kernel, rfl⟩
theorem dX7_findWays_66 : nv_dgo qX7_findWays 66 71 := ⟨5, by decide +kernel, by decide⟩
theorem dX7_findWays_69 : nv_dk qX7_findWays 69 100 71 := Or.inr (Or.inl ⟨100, ⟨by decide +kernel, rfl⟩, by decide⟩)
theorem dX7_findWays_71 : nv_dc qX7_findWays 71 (.iastore) 1 72 := ⟨by decide +kernel, rfl⟩
theorem dX7_findWays_72 : nv_dc qX7_findWays 72 (.iinc 4 1) 3 75 := ⟨by decide +kernel, rfl⟩
theorem dX7_findWays_75 : nv_dgo qX7_findWays 75 24 := ⟨(-51), by decide +kernel, by decide⟩
theorem dX7_findWays_78 : nv_daload qX7_findWays 78 0 79 := Or.inr ⟨0, rfl, by decide +kernel, rfl⟩
theorem dX7_findWays_79 : nv_dc qX7_findWays 79 (.getfield 124) 3 82 := ⟨by decide +kernel, rfl⟩
theorem dX7_findWays_82 : nv_diload qX7_findWays 82 3 83 := Or.inr ⟨3, rfl, by decide +kernel, rfl⟩
theorem dX7_findWays_83 : nv_daload qX7_findWays 83 0 84 := Or.inr ⟨0, rfl, by decide +kernel, rfl⟩
theorem dX7_findWays_84 : nv_diload qX7_findWays 84 2 85 := Or.inr ⟨2, rfl, by decide +kernel, rfl⟩
theorem dX7_findWays_85 : nv_dc qX7_findWays 85 (.invokevirtual 271) 3 88 := ⟨by decide +kernel, rfl⟩
theorem dX7_findWays_88 : nv_dc qX7_findWays 88 (.iastore) 1 89 := ⟨by decide +kernel, rfl⟩
theorem dX7_findWays_89 : nv_dc qX7_findWays 89 (.iinc 3 1) 3 92 := ⟨by decide +kernel, rfl⟩
theorem dX7_findWays_92 : nv_dgo qX7_findWays 92 11 := ⟨(-81), by decide +kernel, by decide⟩
theorem dX7_findWays_95 : decode qX7_findWays.2.1 95 = .ok (.return_, 1) := by decide +kernel
def pm_findWays_71 (h : nv_Hp) (x2 : Int32) (x3 : Int32) (x4 : Int32) (s1 : Int32) (s2 : Int32) (rec24 : Int32 → nv_Hp → Option (nv_Hp)) : Option (nv_Hp) := (if nv_inb s1 12 = true then (nv_lt (nv_up h 93 s1.toNatClampNeg s2) fun h2 => (rec24 (x4 + 1) h2)) else none)
set_option maxHeartbeats 2000000 in
theorem tm_findWays_71 (G : nv_G) (h : nv_Hp) (x2 : Int32) (hx2 : nv_inb x2 10 = true) (x3 : Int32) (x4 : Int32) (s1 : Int32) (s2 : Int32) (rec24 : Int32 → nv_Hp → Option (nv_Hp)) (hrec24 : ∀ (x4 : Int32) (h : nv_Hp) (o1 : Option Value) (r : nv_Hp), rec24 x4 h = some r → nv_E G 5 qX7_findWays 24 [some (.ref 73), o1, some (.int x2), some (.int x3), some (.int x4)] [] (nv_s h) (none, nv_s r)) (o1 : Option Value) (r : nv_Hp) (hf : pm_findWays_71 h x2 x3 x4 s1 s2 rec24 = some r) : nv_E G 5 qX7_findWays 71 [some (.ref 73), o1, some (.int x2), some (.int x3), some (.int x4)] [.int s2, .int s1, .ref 93] (nv_s h) (none, nv_s r) := by
  unfold pm_findWays_71 at hf
  obtain ⟨g1, hf⟩ := nv_gd hf
  refine nv_aP dX7_findWays_71 ka_93 g1 rfl ?_
  obtain ⟨h2, eh2, hf⟩ := nv_ltX hf
  rw [eh2]
  clear eh2
  refine nv_inc dX7_findWays_72 rfl (v := 1) (by decide) (by decide) rfl rfl ?_
  refine nv_goto dX7_findWays_75 ?_
  exact hrec24 _ _ _ _ hf
def pm_findWays_24  (x2 : Int32) (x3 : Int32) (rec11 : Int32 → nv_Hp → Option (nv_Hp)) : Nat → Int32 → nv_Hp → Option (nv_Hp)
  | 0, _, _ => none
  | n + 1, x4, h => (if (h 73 45) ≤ x4 then (Option.bind (pm_boundNow h x2) fun q2 => (if nv_inb x3 64 = true then (nv_lt (nv_up q2.2 112 x3.toNatClampNeg q2.1) fun h4 => (rec11 (x3 + 1) h4)) else none)) else (if nv_inb x4 6 = true then (Option.bind ((if ((x3 >>> (x4 &&& 31)) &&& 1) = 1 then (if nv_inb (h 111 x4.toNatClampNeg) 12 = true then some ((h 90 (h 111 x4.toNatClampNeg).toNatClampNeg)) else none) else some (100)) : Option (Int32)) fun u7 => pm_findWays_71 h x2 x3 x4 (h 111 x4.toNatClampNeg) u7 (pm_findWays_24 x2 x3 rec11 n)) else none))
set_option maxHeartbeats 2000000 in
theorem tm_findWays_24 (G : nv_G)  (x2 : Int32) (hx2 : nv_inb x2 10 = true) (x3 : Int32) (rec11 : Int32 → nv_Hp → Option (nv_Hp)) (hrec11 : ∀ (x3 : Int32) (h : nv_Hp) (o1 o4 : Option Value) (r : nv_Hp), rec11 x3 h = some r → nv_E G 5 qX7_findWays 11 [some (.ref 73), o1, some (.int x2), some (.int x3), o4] [] (nv_s h) (none, nv_s r)) : ∀ (n : Nat) (x4 : Int32) (h : nv_Hp) (o1 : Option Value) (r : nv_Hp), pm_findWays_24 x2 x3 rec11 n x4 h = some r → nv_E G 5 qX7_findWays 24 [some (.ref 73), o1, some (.int x2), some (.int x3), some (.int x4)] [] (nv_s h) (none, nv_s r) := by
  intro n
  induction n with
  | zero =>
    intro x4 h o1 r hf
    rw [pm_findWays_24] at hf
    cases hf
  | succ n ih =>
    intro x4 h o1 r hf
    rw [pm_findWays_24] at hf
    refine nv_iL dX7_findWays_24 rfl ?_
    refine nv_aL dX7_findWays_26 rfl ?_
    refine nv_tI lf_X7_295 dX7_findWays_27 ko_73 rfl ?_
    refine nv_icge dX7_findWays_30 (fun c1 => ?_) (fun c1 => ?_)
    · replace hf := nv_ip c1 hf
      refine nv_aL dX7_findWays_78 rfl ?_
      refine nv_tR lf_X7_124 dX7_findWays_79 ko_73 rfl ?_
      refine nv_iL dX7_findWays_82 rfl ?_
      refine nv_aL dX7_findWays_83 rfl ?_
      refine nv_iL dX7_findWays_84 rfl ?_
      obtain ⟨q2, hq2, hf⟩ := nv_bd hf
      refine nv_cVi (tm_boundNow G h x2 hx2 hq2) dX7_findWays_85 lm_X7_271 y_qX7_boundNow ko_73 rfl rfl (by decide) rfl (Nat.le_of_ble_eq_true rfl) ?_
      obtain ⟨g3, hf⟩ := nv_gd hf
      refine nv_aP dX7_findWays_88 ka_112 g3 rfl ?_
      obtain ⟨h4, eh4, hf⟩ := nv_ltX hf
      rw [eh4]
      clear eh4
      refine nv_inc dX7_findWays_89 rfl (v := 1) (by decide) (by decide) rfl rfl ?_
      refine nv_goto dX7_findWays_92 ?_
      exact hrec11 _ _ _ _ _ hf
    · replace hf := nv_in c1 hf
      refine nv_aL dX7_findWays_33 rfl ?_
      refine nv_tR lf_X7_67 dX7_findWays_34 ko_73 rfl ?_
      refine nv_aL dX7_findWays_37 rfl ?_
      refine nv_tR lf_X7_121 dX7_findWays_38 ko_73 rfl ?_
      refine nv_iL dX7_findWays_41 rfl ?_
      obtain ⟨g5, hf⟩ := nv_gd hf
      refine nv_aI dX7_findWays_43 ka_111 g5 rfl ?_
      refine nv_iL dX7_findWays_44 rfl ?_
      refine nv_iL dX7_findWays_45 rfl ?_
      refine nv_ishr dX7_findWays_47 ?_
      refine nv_k dX7_findWays_48 ?_
      refine nv_iand dX7_findWays_49 ?_
      refine nv_k dX7_findWays_50 ?_
      refine nv_icne dX7_findWays_51 (fun c8 => ?_) (fun c8 => ?_)
      · try simp only [if_pos c8, Option.bind_some] at hf
        refine nv_aL dX7_findWays_54 rfl ?_
        refine nv_tR lf_X7_58 dX7_findWays_55 ko_73 rfl ?_
        refine nv_aL dX7_findWays_58 rfl ?_
        refine nv_tR lf_X7_121 dX7_findWays_59 ko_73 rfl ?_
        refine nv_iL dX7_findWays_62 rfl ?_
        refine nv_aI dX7_findWays_64 ka_111 g5 rfl ?_
        have g9 : nv_inb (h 111 x4.toNatClampNeg) 12 = true := by
          by_cases g9 : nv_inb (h 111 x4.toNatClampNeg) 12 = true
          · exact g9
          · exfalso; simp [if_neg g9] at hf
        simp only [if_pos g9, Option.bind_some] at hf
        refine nv_aI dX7_findWays_65 ka_90 g9 rfl ?_
        refine nv_goto dX7_findWays_66 ?_
        exact tm_findWays_71 G _ _ hx2 _ _ _ _ _ ih _ _ hf
      · try simp only [if_neg c8, Option.bind_some] at hf
        refine nv_k dX7_findWays_69 ?_
        exact tm_findWays_71 G _ _ hx2 _ _ _ _ _ ih _ _ hf
def pm_findWays_11  (x2 : Int32)  : Nat → Int32 → nv_Hp → Option (nv_Hp)
  | 0, _, _ => none
  | n + 1, x3, h => (if (1 <<< ((h 73 45) &&& 31)) ≤ x3 then some h else (pm_findWays_24 x2 x3 (pm_findWays_11 x2 n) nv_fu 0 h))
set_option maxHeartbeats 2000000 in
theorem tm_findWays_11 (G : nv_G)  (x2 : Int32) (hx2 : nv_inb x2 10 = true)  : ∀ (n : Nat) (x3 : Int32) (h : nv_Hp) (o1 o4 : Option Value) (r : nv_Hp), pm_findWays_11 x2 n x3 h = some r → nv_E G 5 qX7_findWays 11 [some (.ref 73), o1, some (.int x2), some (.int x3), o4] [] (nv_s h) (none, nv_s r) := by
  intro n
  induction n with
  | zero =>
    intro x3 h o1 o4 r hf
    rw [pm_findWays_11] at hf
    cases hf
  | succ n ih =>
    intro x3 h o1 o4 r hf
    rw [pm_findWays_11] at hf
    refine nv_iL dX7_findWays_11 rfl ?_
    refine nv_k dX7_findWays_12 ?_
    refine nv_aL dX7_findWays_13 rfl ?_
    refine nv_tI lf_X7_295 dX7_findWays_14 ko_73 rfl ?_
    refine nv_ishl dX7_findWays_17 ?_
    refine nv_icge dX7_findWays_18 (fun c1 => ?_) (fun c1 => ?_)
    · replace hf := nv_ip c1 hf
      obtain rfl := Option.some.inj hf
      exact nv_return dX7_findWays_95 rfl
    · replace hf := nv_in c1 hf
      refine nv_k dX7_findWays_21 ?_
      refine nv_iS dX7_findWays_22 (by decide) rfl rfl ?_
      exact tm_findWays_24 G _ hx2 _ _ ih _ _ _ _ _ hf
def pm_findWays (h : nv_Hp) (x1 : Int32) (x2 : Int32) : Option (nv_Hp) := (Option.bind (pm_goes h x1) fun q1 => (Option.bind (pm_findOpen q1) fun q2 => (pm_findWays_11 x2 nv_fu 0 q2)))
set_option maxHeartbeats 2000000 in
theorem tm_findWays (G : nv_G) (h : nv_Hp) (x1 : Int32) (hx1 : nv_inb x1 2 = true) (x2 : Int32) (hx2 : nv_inb x2 10 = true) {r : nv_Hp} (hf : (pm_findWays h x1 x2) = some r) : nv_Mt G 5 qX7_findWays [.ref 73, .int x1, .int x2] (nv_s h) (none, nv_s r) := by
  refine nv_of (by decide +kernel) (fun ad => Nat.le_of_ble_eq_true rfl) (Nat.le_refl _) (Nat.le_of_ble_eq_true rfl) ?_
  show nv_E G 5 qX7_findWays 0 [some (.ref 73), some (.int x1), some (.int x2), none, none] [] (nv_s h) (none, nv_s r)
  unfold pm_findWays at hf
  refine nv_aL dX7_findWays_0 rfl ?_
  refine nv_iL dX7_findWays_1 rfl ?_
  obtain ⟨q1, hq1, hf⟩ := nv_bd hf
  refine nv_cVv (tm_goes G h x1 hx1 hq1) dX7_findWays_2 lm_X7_268 y_qX7_goes ko_73 rfl rfl (by decide) rfl (Nat.le_of_ble_eq_true rfl) ?_
  refine nv_aL dX7_findWays_5 rfl ?_
  obtain ⟨q2, hq2, hf⟩ := nv_bd hf
  refine nv_cVv (tm_findOpen G q1 hq2) dX7_findWays_6 lm_X7_298 y_qX7_findOpen ko_73 rfl rfl (by decide) rfl (Nat.le_of_ble_eq_true rfl) ?_
  refine nv_k dX7_findWays_9 ?_
  refine nv_iS dX7_findWays_10 (by decide) rfl rfl ?_
  exact tm_findWays_11 G _ hx2 _ _ _ _ _ _ hf
/-! WhoseNameModel.sure -/
theorem dX7_sure_0 : nv_diload qX7_sure 0 1 1 := Or.inr ⟨1, rfl, by decide +kernel, rfl⟩
theorem dX7_sure_1 : nv_dc qX7_sure 1 (.invokestatic 171) 3 4 := ⟨by decide +kernel, rfl⟩
theorem dX7_sure_4 : nv_dif qX7_sure 4 .eq 22 7 := ⟨18, by decide +kernel, by decide, rfl⟩
theorem dX7_sure_7 : nv_daload qX7_sure 7 0 8 := Or.inr ⟨0, rfl, by decide +kernel, rfl⟩
theorem dX7_sure_8 : nv_diload qX7_sure 8 2 9 := Or.inr ⟨2, rfl, by decide +kernel, rfl⟩
theorem dX7_sure_9 : nv_dc qX7_sure 9 (.invokevirtual 204) 3 12 := ⟨by decide +kernel, rfl⟩
theorem dX7_sure_12 : nv_dif qX7_sure 12 .eq 22 15 := ⟨10, by decide +kernel, by decide, rfl⟩
theorem dX7_sure_15 : nv_diload qX7_sure 15 3 16 := Or.inr ⟨3, rfl, by decide +kernel, rfl⟩
theorem dX7_sure_16 : nv_dc qX7_sure 16 (.invokestatic 160) 3 19 := ⟨by decide +kernel, rfl⟩
theorem dX7_sure_19 : nv_dif qX7_sure 19 .ne 25 22 := ⟨6, by decide +kernel, by decide, rfl⟩
theorem dX7_sure_22 : nv_dk qX7_sure 22 (-2) 24 := Or.inr (Or.inl ⟨(-2), ⟨by decide +kernel, rfl⟩, by decide⟩)
theorem dX7_sure_24 : decode qX7_sure.2.1 24 = .ok (.ireturn, 1) := by decide +kernel
theorem dX7_sure_25 : nv_daload qX7_sure 25 0 26 := Or.inr ⟨0, rfl, by decide +kernel, rfl⟩
theorem dX7_sure_26 : nv_diload qX7_sure 26 1 27 := Or.inr ⟨1, rfl, by decide +kernel, rfl⟩
theorem dX7_sure_27 : nv_diload qX7_sure 27 2 28 := Or.inr ⟨2, rfl, by decide +kernel, rfl⟩
theorem dX7_sure_28 : nv_dc qX7_sure 28 (.invokevirtual 301) 3 31 := ⟨by decide +kernel, rfl⟩
theorem dX7_sure_31 : nv_dk qX7_sure 31 0 32 := Or.inl ⟨0, ⟨by decide +kernel, rfl⟩, by decide⟩
theorem dX7_sure_32 : nv_distore qX7_sure 32 4 34 := Or.inl ⟨by decide +kernel, rfl⟩
theorem dX7_sure_34 : nv_dk qX7_sure 34 0 35 := Or.inl ⟨0, ⟨by decide +kernel, rfl⟩, by decide⟩
theorem dX7_sure_35 : nv_distore qX7_sure 35 5 37 := Or.inl ⟨by decide +kernel, rfl⟩
theorem dX7_sure_37 : nv_diload qX7_sure 37 5 39 := Or.inl ⟨by decide +kernel, rfl⟩
theorem dX7_sure_39 : nv_dk qX7_sure 39 1 40 := Or.inl ⟨1, ⟨by decide +kernel, rfl⟩, by decide⟩
theorem dX7_sure_40 : nv_daload qX7_sure 40 0 41 := Or.inr ⟨0, rfl, by decide +kernel, rfl⟩
theorem dX7_sure_41 : nv_dc qX7_sure 41 (.getfield 295) 3 44 := ⟨by decide +kernel, rfl⟩
theorem dX7_sure_44 : nv_dc qX7_sure 44 (.ishl) 1 45 := ⟨by decide +kernel, rfl⟩
theorem dX7_sure_45 : nv_dic qX7_sure 45 .ge 70 48 := ⟨25, by decide +kernel, by decide, rfl⟩
theorem dX7_sure_48 : nv_diload qX7_sure 48 4 50 := Or.inl ⟨by decide +kernel, rfl⟩
theorem dX7_sure_50 : nv_daload qX7_sure 50 0 51 := Or.inr ⟨0, rfl, by decide +kernel, rfl⟩
theorem dX7_sure_51 : nv_dc qX7_sure 51 (.getfield 124) 3 54 := ⟨by decide +kernel, rfl⟩
theorem dX7_sure_54 : nv_diload qX7_sure 54 5 56 := Or.inl ⟨by decide +kernel, rfl⟩
theorem dX7_sure_56 : nv_dc qX7_sure 56 (.iaload) 1 57 := ⟨by decide +kernel, rfl⟩
theorem dX7_sure_57 : nv_diload qX7_sure 57 3 58 := Or.inr ⟨3, rfl, by decide +kernel, rfl⟩
theorem dX7_sure_58 : nv_dc qX7_sure 58 (.ishr) 1 59 := ⟨by decide +kernel, rfl⟩
theorem dX7_sure_59 : nv_dk qX7_sure 59 1 60 := Or.inl ⟨1, ⟨by decide +kernel, rfl⟩, by decide⟩
theorem dX7_sure_60 : nv_dc qX7_sure 60 (.iand) 1 61 := ⟨by decide +kernel, rfl⟩
theorem dX7_sure_61 : nv_dc qX7_sure 61 (.iadd) 1 62 := ⟨by decide +kernel, rfl⟩
theorem dX7_sure_62 : nv_distore qX7_sure 62 4 64 := Or.inl ⟨by decide +kernel, rfl⟩
theorem dX7_sure_64 : nv_dc qX7_sure 64 (.iinc 5 1) 3 67 := ⟨by decide +kernel, rfl⟩
theorem dX7_sure_67 : nv_dgo qX7_sure 67 37 := ⟨(-30), by decide +kernel, by decide⟩
theorem dX7_sure_70 : nv_diload qX7_sure 70 4 72 := Or.inl ⟨by decide +kernel, rfl⟩
theorem dX7_sure_72 : nv_dk qX7_sure 72 1 73 := Or.inl ⟨1, ⟨by decide +kernel, rfl⟩, by decide⟩
theorem dX7_sure_73 : nv_daload qX7_sure 73 0 74 := Or.inr ⟨0, rfl, by decide +kernel, rfl⟩
theorem dX7_sure_74 : nv_dc qX7_sure 74 (.getfield 295) 3 77 := ⟨by decide +kernel, rfl⟩
theorem dX7_sure_77 : nv_dc qX7_sure 77 (.ishl) 1 78 := ⟨by decide +kernel, rfl⟩
theorem dX7_sure_78 : nv_dic qX7_sure 78 .ne 85 81 := ⟨7, by decide +kernel, by decide, rfl⟩
theorem dX7_sure_81 : nv_dk qX7_sure 81 2 82 := Or.inl ⟨2, ⟨by decide +kernel, rfl⟩, by decide⟩
theorem dX7_sure_82 : nv_dgo qX7_sure 82 95 := ⟨13, by decide +kernel, by decide⟩
theorem dX7_sure_85 : nv_diload qX7_sure 85 4 87 := Or.inl ⟨by decide +kernel, rfl⟩
theorem dX7_sure_87 : nv_dif qX7_sure 87 .le 94 90 := ⟨7, by decide +kernel, by decide, rfl⟩
theorem dX7_sure_90 : nv_dk qX7_sure 90 1 91 := Or.inl ⟨1, ⟨by decide +kernel, rfl⟩, by decide⟩
theorem dX7_sure_91 : nv_dgo qX7_sure 91 95 := ⟨4, by decide +kernel, by decide⟩
theorem dX7_sure_94 : nv_dk qX7_sure 94 0 95 := Or.inl ⟨0, ⟨by decide +kernel, rfl⟩, by decide⟩
theorem dX7_sure_95 : decode qX7_sure.2.1 95 = .ok (.ireturn, 1) := by decide +kernel
def pm_sure_37 (h : nv_Hp) (x3 : Int32)  : Nat → Int32 → Int32 → Option (Int32 × nv_Hp)
  | 0, _, _ => none
  | n + 1, x4, x5 => (if (1 <<< ((h 73 45) &&& 31)) ≤ x5 then (if x4 = (1 <<< ((h 73 45) &&& 31)) then some (2, h) else (if x4 ≤ 0 then some (0, h) else some (1, h))) else (if nv_inb x5 64 = true then (nv_lt ((x4 + (((h 112 x5.toNatClampNeg) >>> (x3 &&& 31)) &&& 1))) fun v5 => ((pm_sure_37 h x3 n) v5 (x5 + 1))) else none))
set_option maxHeartbeats 2000000 in
theorem tm_sure_37 (G : nv_G) (h : nv_Hp) (x3 : Int32)  : ∀ (n : Nat) (x4 : Int32) (x5 : Int32) (o1 o2 : Option Value) (r : Int32 × nv_Hp), pm_sure_37 h x3 n x4 x5 = some r → nv_E G 6 qX7_sure 37 [some (.ref 73), o1, o2, some (.int x3), some (.int x4), some (.int x5)] [] (nv_s h) (some (.int r.1), nv_s r.2) := by
  intro n
  induction n with
  | zero =>
    intro x4 x5 o1 o2 r hf
    rw [pm_sure_37] at hf
    cases hf
  | succ n ih =>
    intro x4 x5 o1 o2 r hf
    rw [pm_sure_37] at hf
    refine nv_iL dX7_sure_37 rfl ?_
    refine nv_k dX7_sure_39 ?_
    refine nv_aL dX7_sure_40 rfl ?_
    refine nv_tI lf_X7_295 dX7_sure_41 ko_73 rfl ?_
    refine nv_ishl dX7_sure_44 ?_
    refine nv_icge dX7_sure_45 (fun c1 => ?_) (fun c1 => ?_)
    · replace hf := nv_ip c1 hf
      refine nv_iL dX7_sure_70 rfl ?_
      refine nv_k dX7_sure_72 ?_
      refine nv_aL dX7_sure_73 rfl ?_
      refine nv_tI lf_X7_295 dX7_sure_74 ko_73 rfl ?_
      refine nv_ishl dX7_sure_77 ?_
      refine nv_icne dX7_sure_78 (fun c2 => ?_) (fun c2 => ?_)
      · replace hf := nv_ip c2 hf
        refine nv_k dX7_sure_81 ?_
        refine nv_goto dX7_sure_82 ?_
        obtain rfl := Option.some.inj hf
        exact nv_ireturnI dX7_sure_95 rfl
      · replace hf := nv_in c2 hf
        refine nv_iL dX7_sure_85 rfl ?_
        refine nv_ifle dX7_sure_87 (fun c3 => ?_) (fun c3 => ?_)
        · replace hf := nv_ip c3 hf
          refine nv_k dX7_sure_94 ?_
          obtain rfl := Option.some.inj hf
          exact nv_ireturnI dX7_sure_95 rfl
        · replace hf := nv_in c3 hf
          refine nv_k dX7_sure_90 ?_
          refine nv_goto dX7_sure_91 ?_
          obtain rfl := Option.some.inj hf
          exact nv_ireturnI dX7_sure_95 rfl
    · replace hf := nv_in c1 hf
      refine nv_iL dX7_sure_48 rfl ?_
      refine nv_aL dX7_sure_50 rfl ?_
      refine nv_tR lf_X7_124 dX7_sure_51 ko_73 rfl ?_
      refine nv_iL dX7_sure_54 rfl ?_
      obtain ⟨g4, hf⟩ := nv_gd hf
      refine nv_aI dX7_sure_56 ka_112 g4 rfl ?_
      refine nv_iL dX7_sure_57 rfl ?_
      refine nv_ishr dX7_sure_58 ?_
      refine nv_k dX7_sure_59 ?_
      refine nv_iand dX7_sure_60 ?_
      refine nv_iadd dX7_sure_61 ?_
      obtain ⟨v5, ev5, hf⟩ := nv_ltX hf
      rw [ev5]
      clear ev5
      refine nv_iS dX7_sure_62 (by decide) rfl rfl ?_
      refine nv_inc dX7_sure_64 rfl (v := 1) (by decide) (by decide) rfl rfl ?_
      refine nv_goto dX7_sure_67 ?_
      exact ih _ _ _ _ _ hf
def pm_sure (h : nv_Hp) (x1 : Int32) (x2 : Int32) (x3 : Int32) : Option (Int32 × nv_Hp) := (if (pm_isTwo x1) = true then (if (pm_isBargain h x2) = true then (if (pm_isPerson x3) = true then (if nv_inb x1 2 = true then (if nv_inb x2 10 = true then (Option.bind (pm_findWays h x1 x2) fun q6 => (pm_sure_37 q6 x3 nv_fu 0 0)) else none) else none) else some ((-2), h)) else some ((-2), h)) else some ((-2), h))
set_option maxHeartbeats 2000000 in
theorem tm_sure (G : nv_G) (h : nv_Hp) (x1 : Int32) (x2 : Int32) (x3 : Int32) {r : Int32 × nv_Hp} (hf : (pm_sure h x1 x2 x3) = some r) : nv_Mt G 6 qX7_sure [.ref 73, .int x1, .int x2, .int x3] (nv_s h) (some (.int r.1), nv_s r.2) := by
  refine nv_of (by decide +kernel) (fun ad => Nat.le_of_ble_eq_true rfl) (Nat.le_refl _) (Nat.le_of_ble_eq_true rfl) ?_
  show nv_E G 6 qX7_sure 0 [some (.ref 73), some (.int x1), some (.int x2), some (.int x3), none, none] [] (nv_s h) (some (.int r.1), nv_s r.2)
  unfold pm_sure at hf
  refine nv_iL dX7_sure_0 rfl ?_
  refine nv_cSi (tm_isTwo G h x1) dX7_sure_1 lm_X7_171 y_qX7_isTwo rfl (by decide) rfl (Nat.le_of_ble_eq_true rfl) ?_
  refine nv_ifeqB dX7_sure_4 (fun c1 => ?_) (fun c1 => ?_)
  · replace hf := nv_ip c1 hf
    refine nv_aL dX7_sure_7 rfl ?_
    refine nv_iL dX7_sure_8 rfl ?_
    refine nv_cVi (tm_isBargain G h x2) dX7_sure_9 lm_X7_204 y_qX7_isBargain ko_73 rfl rfl (by decide) rfl (Nat.le_of_ble_eq_true rfl) ?_
    refine nv_ifeqB dX7_sure_12 (fun c2 => ?_) (fun c2 => ?_)
    · replace hf := nv_ip c2 hf
      refine nv_iL dX7_sure_15 rfl ?_
      refine nv_cSi (tm_isPerson G h x3) dX7_sure_16 lm_X7_160 y_qX7_isPerson rfl (by decide) rfl (Nat.le_of_ble_eq_true rfl) ?_
      refine nv_ifneB dX7_sure_19 (fun c3 => ?_) (fun c3 => ?_)
      · replace hf := nv_ip c3 hf
        refine nv_aL dX7_sure_25 rfl ?_
        refine nv_iL dX7_sure_26 rfl ?_
        refine nv_iL dX7_sure_27 rfl ?_
        obtain ⟨g4, hf⟩ := nv_gd hf
        obtain ⟨g5, hf⟩ := nv_gd hf
        obtain ⟨q6, hq6, hf⟩ := nv_bd hf
        refine nv_cVv (tm_findWays G h x1 g4 x2 g5 hq6) dX7_sure_28 lm_X7_301 y_qX7_findWays ko_73 rfl rfl (by decide) rfl (Nat.le_of_ble_eq_true rfl) ?_
        refine nv_k dX7_sure_31 ?_
        refine nv_iS dX7_sure_32 (by decide) rfl rfl ?_
        refine nv_k dX7_sure_34 ?_
        refine nv_iS dX7_sure_35 (by decide) rfl rfl ?_
        exact tm_sure_37 G _ _ _ _ _ _ _ _ hf
      · replace hf := nv_in c3 hf
        refine nv_k dX7_sure_22 ?_
        obtain rfl := Option.some.inj hf
        exact nv_ireturnI dX7_sure_24 rfl
    · replace hf := nv_in c2 hf
      refine nv_k dX7_sure_22 ?_
      obtain rfl := Option.some.inj hf
      exact nv_ireturnI dX7_sure_24 rfl
  · replace hf := nv_in c1 hf
    refine nv_k dX7_sure_22 ?_
    obtain rfl := Option.some.inj hf
    exact nv_ireturnI dX7_sure_24 rfl
/-! WhoseNameModel.hangs -/
theorem dX7_hangs_0 : nv_diload qX7_hangs 0 1 1 := Or.inr ⟨1, rfl, by decide +kernel, rfl⟩
theorem dX7_hangs_1 : nv_dc qX7_hangs 1 (.invokestatic 171) 3 4 := ⟨by decide +kernel, rfl⟩
theorem dX7_hangs_4 : nv_dif qX7_hangs 4 .eq 23 7 := ⟨19, by decide +kernel, by decide, rfl⟩
theorem dX7_hangs_7 : nv_daload qX7_hangs 7 0 8 := Or.inr ⟨0, rfl, by decide +kernel, rfl⟩
theorem dX7_hangs_8 : nv_diload qX7_hangs 8 2 9 := Or.inr ⟨2, rfl, by decide +kernel, rfl⟩
theorem dX7_hangs_9 : nv_dc qX7_hangs 9 (.invokevirtual 204) 3 12 := ⟨by decide +kernel, rfl⟩
theorem dX7_hangs_12 : nv_dif qX7_hangs 12 .eq 23 15 := ⟨11, by decide +kernel, by decide, rfl⟩
theorem dX7_hangs_15 : nv_daload qX7_hangs 15 0 16 := Or.inr ⟨0, rfl, by decide +kernel, rfl⟩
theorem dX7_hangs_16 : nv_diload qX7_hangs 16 3 17 := Or.inr ⟨3, rfl, by decide +kernel, rfl⟩
theorem dX7_hangs_17 : nv_dc qX7_hangs 17 (.invokevirtual 194) 3 20 := ⟨by decide +kernel, rfl⟩
theorem dX7_hangs_20 : nv_dif qX7_hangs 20 .ne 26 23 := ⟨6, by decide +kernel, by decide, rfl⟩
theorem dX7_hangs_23 : nv_dk qX7_hangs 23 (-2) 25 := Or.inr (Or.inl ⟨(-2), ⟨by decide +kernel, rfl⟩, by decide⟩)
theorem dX7_hangs_25 : decode qX7_hangs.2.1 25 = .ok (.ireturn, 1) := by decide +kernel
theorem dX7_hangs_26 : nv_daload qX7_hangs 26 0 27 := Or.inr ⟨0, rfl, by decide +kernel, rfl⟩
theorem dX7_hangs_27 : nv_diload qX7_hangs 27 1 28 := Or.inr ⟨1, rfl, by decide +kernel, rfl⟩
theorem dX7_hangs_28 : nv_diload qX7_hangs 28 2 29 := Or.inr ⟨2, rfl, by decide +kernel, rfl⟩
theorem dX7_hangs_29 : nv_dc qX7_hangs 29 (.invokevirtual 301) 3 32 := ⟨by decide +kernel, rfl⟩
theorem dX7_hangs_32 : nv_dk qX7_hangs 32 (-1) 33 := Or.inl ⟨(-1), ⟨by decide +kernel, rfl⟩, by decide⟩
theorem dX7_hangs_33 : nv_distore qX7_hangs 33 4 35 := Or.inl ⟨by decide +kernel, rfl⟩
theorem dX7_hangs_35 : nv_dk qX7_hangs 35 0 36 := Or.inl ⟨0, ⟨by decide +kernel, rfl⟩, by decide⟩
theorem dX7_hangs_36 : nv_distore qX7_hangs 36 5 38 := Or.inl ⟨by decide +kernel, rfl⟩
theorem dX7_hangs_38 : nv_diload qX7_hangs 38 5 40 := Or.inl ⟨by decide +kernel, rfl⟩
theorem dX7_hangs_40 : nv_daload qX7_hangs 40 0 41 := Or.inr ⟨0, rfl, by decide +kernel, rfl⟩
theorem dX7_hangs_41 : nv_dc qX7_hangs 41 (.getfield 295) 3 44 := ⟨by decide +kernel, rfl⟩
theorem dX7_hangs_44 : nv_dic qX7_hangs 44 .ge 73 47 := ⟨29, by decide +kernel, by decide, rfl⟩
theorem dX7_hangs_47 : nv_daload qX7_hangs 47 0 48 := Or.inr ⟨0, rfl, by decide +kernel, rfl⟩
theorem dX7_hangs_48 : nv_dc qX7_hangs 48 (.getfield 121) 3 51 := ⟨by decide +kernel, rfl⟩
theorem dX7_hangs_51 : nv_diload qX7_hangs 51 5 53 := Or.inl ⟨by decide +kernel, rfl⟩
theorem dX7_hangs_53 : nv_dc qX7_hangs 53 (.iaload) 1 54 := ⟨by decide +kernel, rfl⟩
theorem dX7_hangs_54 : nv_diload qX7_hangs 54 3 55 := Or.inr ⟨3, rfl, by decide +kernel, rfl⟩
theorem dX7_hangs_55 : nv_dic qX7_hangs 55 .ne 63 58 := ⟨8, by decide +kernel, by decide, rfl⟩
theorem dX7_hangs_58 : nv_diload qX7_hangs 58 5 60 := Or.inl ⟨by decide +kernel, rfl⟩
theorem dX7_hangs_60 : nv_dgo qX7_hangs 60 65 := ⟨5, by decide +kernel, by decide⟩
theorem dX7_hangs_63 : nv_diload qX7_hangs 63 4 65 := Or.inl ⟨by decide +kernel, rfl⟩
theorem dX7_hangs_65 : nv_distore qX7_hangs 65 4 67 := Or.inl ⟨by decide +kernel, rfl⟩
theorem dX7_hangs_67 : nv_dc qX7_hangs 67 (.iinc 5 1) 3 70 := ⟨by decide +kernel, rfl⟩
theorem dX7_hangs_70 : nv_dgo qX7_hangs 70 38 := ⟨(-32), by decide +kernel, by decide⟩
theorem dX7_hangs_73 : nv_diload qX7_hangs 73 4 75 := Or.inl ⟨by decide +kernel, rfl⟩
theorem dX7_hangs_75 : nv_dk qX7_hangs 75 (-1) 76 := Or.inl ⟨(-1), ⟨by decide +kernel, rfl⟩, by decide⟩
theorem dX7_hangs_76 : nv_dic qX7_hangs 76 .ne 82 79 := ⟨6, by decide +kernel, by decide, rfl⟩
theorem dX7_hangs_79 : nv_dk qX7_hangs 79 (-2) 81 := Or.inr (Or.inl ⟨(-2), ⟨by decide +kernel, rfl⟩, by decide⟩)
theorem dX7_hangs_81 : decode qX7_hangs.2.1 81 = .ok (.ireturn, 1) := by decide +kernel
theorem dX7_hangs_82 : nv_dk qX7_hangs 82 0 83 := Or.inl ⟨0, ⟨by decide +kernel, rfl⟩, by decide⟩
theorem dX7_hangs_83 : nv_distore qX7_hangs 83 5 85 := Or.inl ⟨by decide +kernel, rfl⟩
theorem dX7_hangs_85 : nv_dk qX7_hangs 85 0 86 := Or.inl ⟨0, ⟨by decide +kernel, rfl⟩, by decide⟩
theorem dX7_hangs_86 : nv_distore qX7_hangs 86 6 88 := Or.inl ⟨by decide +kernel, rfl⟩
theorem dX7_hangs_88 : nv_diload qX7_hangs 88 6 90 := Or.inl ⟨by decide +kernel, rfl⟩
theorem dX7_hangs_90 : nv_dk qX7_hangs 90 1 91 := Or.inl ⟨1, ⟨by decide +kernel, rfl⟩, by decide⟩
theorem dX7_hangs_91 : nv_daload qX7_hangs 91 0 92 := Or.inr ⟨0, rfl, by decide +kernel, rfl⟩
theorem dX7_hangs_92 : nv_dc qX7_hangs 92 (.getfield 295) 3 95 := ⟨by decide +kernel, rfl⟩
theorem dX7_hangs_95 : nv_dc qX7_hangs 95 (.ishl) 1 96 := ⟨by decide +kernel, rfl⟩
theorem dX7_hangs_96 : nv_dic qX7_hangs 96 .ge 139 99 := ⟨43, by decide +kernel, by decide, rfl⟩
theorem dX7_hangs_99 : nv_diload qX7_hangs 99 5 101 := Or.inl ⟨by decide +kernel, rfl⟩
theorem dX7_hangs_101 : nv_dif qX7_hangs 101 .ne 126 104 := ⟨25, by decide +kernel, by decide, rfl⟩
theorem dX7_hangs_104 : nv_daload qX7_hangs 104 0 105 := Or.inr ⟨0, rfl, by decide +kernel, rfl⟩
theorem dX7_hangs_105 : nv_dc qX7_hangs 105 (.getfield 124) 3 108 := ⟨by decide +kernel, rfl⟩
theorem dX7_hangs_108 : nv_diload qX7_hangs 108 6 110 := Or.inl ⟨by decide +kernel, rfl⟩
theorem dX7_hangs_110 : nv_dc qX7_hangs 110 (.iaload) 1 111 := ⟨by decide +kernel, rfl⟩
theorem dX7_hangs_111 : nv_daload qX7_hangs 111 0 112 := Or.inr ⟨0, rfl, by decide +kernel, rfl⟩
theorem dX7_hangs_112 : nv_dc qX7_hangs 112 (.getfield 124) 3 115 := ⟨by decide +kernel, rfl⟩
theorem dX7_hangs_115 : nv_diload qX7_hangs 115 6 117 := Or.inl ⟨by decide +kernel, rfl⟩
theorem dX7_hangs_117 : nv_dk qX7_hangs 117 1 118 := Or.inl ⟨1, ⟨by decide +kernel, rfl⟩, by decide⟩
theorem dX7_hangs_118 : nv_diload qX7_hangs 118 4 120 := Or.inl ⟨by decide +kernel, rfl⟩
theorem dX7_hangs_120 : nv_dc qX7_hangs 120 (.ishl) 1 121 := ⟨by decide +kernel, rfl⟩
theorem dX7_hangs_121 : nv_dc qX7_hangs 121 (.ixor) 1 122 := ⟨by decide +kernel, rfl⟩
theorem dX7_hangs_122 : nv_dc qX7_hangs 122 (.iaload) 1 123 := ⟨by decide +kernel, rfl⟩
theorem dX7_hangs_123 : nv_dic qX7_hangs 123 .eq 130 126 := ⟨7, by decide +kernel, by decide, rfl⟩
theorem dX7_hangs_126 : nv_dk qX7_hangs 126 1 127 := Or.inl ⟨1, ⟨by decide +kernel, rfl⟩, by decide⟩
theorem dX7_hangs_127 : nv_dgo qX7_hangs 127 131 := ⟨4, by decide +kernel, by decide⟩
theorem dX7_hangs_130 : nv_dk qX7_hangs 130 0 131 := Or.inl ⟨0, ⟨by decide +kernel, rfl⟩, by decide⟩
theorem dX7_hangs_131 : nv_distore qX7_hangs 131 5 133 := Or.inl ⟨by decide +kernel, rfl⟩
theorem dX7_hangs_133 : nv_dc qX7_hangs 133 (.iinc 6 1) 3 136 := ⟨by decide +kernel, rfl⟩
theorem dX7_hangs_136 : nv_dgo qX7_hangs 136 88 := ⟨(-48), by decide +kernel, by decide⟩
theorem dX7_hangs_139 : nv_diload qX7_hangs 139 5 141 := Or.inl ⟨by decide +kernel, rfl⟩
theorem dX7_hangs_141 : nv_dif qX7_hangs 141 .eq 148 144 := ⟨7, by decide +kernel, by decide, rfl⟩
theorem dX7_hangs_144 : nv_dk qX7_hangs 144 1 145 := Or.inl ⟨1, ⟨by decide +kernel, rfl⟩, by decide⟩
theorem dX7_hangs_145 : nv_dgo qX7_hangs 145 149 := ⟨4, by decide +kernel, by decide⟩
theorem dX7_hangs_148 : nv_dk qX7_hangs 148 0 149 := Or.inl ⟨0, ⟨by decide +kernel, rfl⟩, by decide⟩
theorem dX7_hangs_149 : decode qX7_hangs.2.1 149 = .ok (.ireturn, 1) := by decide +kernel
def pm_hangs_88 (h : nv_Hp) (x4 : Int32)  : Nat → Bool → Int32 → Option (Int32 × nv_Hp)
  | 0, _, _ => none
  | n + 1, x5, x6 => (if (1 <<< ((h 73 45) &&& 31)) ≤ x6 then (if x5 = true then some (1, h) else some (0, h)) else (Option.bind ((if x5 = true then some (true) else (if nv_inb x6 64 = true then (if nv_inb (x6 ^^^ (1 <<< (x4 &&& 31))) 64 = true then (if (h 112 x6.toNatClampNeg) = (h 112 (x6 ^^^ (1 <<< (x4 &&& 31))).toNatClampNeg) then some (false) else some (true)) else none) else none)) : Option (Bool)) fun u5 => (pm_hangs_88 h x4 n) u5 (x6 + 1)))
set_option maxHeartbeats 2000000 in
theorem tm_hangs_88 (G : nv_G) (h : nv_Hp) (x4 : Int32)  : ∀ (n : Nat) (x5 : Bool) (x6 : Int32) (o1 o2 o3 : Option Value) (r : Int32 × nv_Hp), pm_hangs_88 h x4 n x5 x6 = some r → nv_E G 6 qX7_hangs 88 [some (.ref 73), o1, o2, o3, some (.int x4), some (.int (nv_bi x5)), some (.int x6)] [] (nv_s h) (some (.int r.1), nv_s r.2) := by
  intro n
  induction n with
  | zero =>
    intro x5 x6 o1 o2 o3 r hf
    rw [pm_hangs_88] at hf
    cases hf
  | succ n ih =>
    intro x5 x6 o1 o2 o3 r hf
    rw [pm_hangs_88] at hf
    refine nv_iL dX7_hangs_88 rfl ?_
    refine nv_k dX7_hangs_90 ?_
    refine nv_aL dX7_hangs_91 rfl ?_
    refine nv_tI lf_X7_295 dX7_hangs_92 ko_73 rfl ?_
    refine nv_ishl dX7_hangs_95 ?_
    refine nv_icge dX7_hangs_96 (fun c1 => ?_) (fun c1 => ?_)
    · replace hf := nv_ip c1 hf
      refine nv_iL dX7_hangs_139 rfl ?_
      refine nv_ifeqB dX7_hangs_141 (fun c2 => ?_) (fun c2 => ?_)
      · replace hf := nv_ip c2 hf
        refine nv_k dX7_hangs_144 ?_
        refine nv_goto dX7_hangs_145 ?_
        obtain rfl := Option.some.inj hf
        exact nv_ireturnI dX7_hangs_149 rfl
      · replace hf := nv_in c2 hf
        refine nv_k dX7_hangs_148 ?_
        obtain rfl := Option.some.inj hf
        exact nv_ireturnI dX7_hangs_149 rfl
    · replace hf := nv_in c1 hf
      refine nv_iL dX7_hangs_99 rfl ?_
      refine nv_ifneB dX7_hangs_101 (fun c6 => ?_) (fun c6 => ?_)
      · try simp only [if_pos c6, Option.bind_some] at hf
        refine nv_k dX7_hangs_126 ?_
        refine nv_goto dX7_hangs_127 ?_
        refine nv_iS dX7_hangs_131 (by decide) rfl rfl ?_
        refine nv_inc dX7_hangs_133 rfl (v := 1) (by decide) (by decide) rfl rfl ?_
        refine nv_goto dX7_hangs_136 ?_
        exact ih _ _ _ _ _ _ hf
      · try simp only [if_neg c6, Option.bind_some] at hf
        refine nv_aL dX7_hangs_104 rfl ?_
        refine nv_tR lf_X7_124 dX7_hangs_105 ko_73 rfl ?_
        refine nv_iL dX7_hangs_108 rfl ?_
        have g7 : nv_inb x6 64 = true := by
          by_cases g7 : nv_inb x6 64 = true
          · exact g7
          · exfalso; simp [if_neg g7] at hf
        simp only [if_pos g7, Option.bind_some] at hf
        refine nv_aI dX7_hangs_110 ka_112 g7 rfl ?_
        refine nv_aL dX7_hangs_111 rfl ?_
        refine nv_tR lf_X7_124 dX7_hangs_112 ko_73 rfl ?_
        refine nv_iL dX7_hangs_115 rfl ?_
        refine nv_k dX7_hangs_117 ?_
        refine nv_iL dX7_hangs_118 rfl ?_
        refine nv_ishl dX7_hangs_120 ?_
        refine nv_ixor dX7_hangs_121 ?_
        have g8 : nv_inb (x6 ^^^ (1 <<< (x4 &&& 31))) 64 = true := by
          by_cases g8 : nv_inb (x6 ^^^ (1 <<< (x4 &&& 31))) 64 = true
          · exact g8
          · exfalso; simp [if_neg g8] at hf
        simp only [if_pos g8, Option.bind_some] at hf
        refine nv_aI dX7_hangs_122 ka_112 g8 rfl ?_
        refine nv_iceq dX7_hangs_123 (fun c9 => ?_) (fun c9 => ?_)
        · try simp only [if_pos c9, Option.bind_some] at hf
          refine nv_k dX7_hangs_130 ?_
          refine nv_iS dX7_hangs_131 (by decide) rfl rfl ?_
          refine nv_inc dX7_hangs_133 rfl (v := 1) (by decide) (by decide) rfl rfl ?_
          refine nv_goto dX7_hangs_136 ?_
          exact ih _ _ _ _ _ _ hf
        · try simp only [if_neg c9, Option.bind_some] at hf
          refine nv_k dX7_hangs_126 ?_
          refine nv_goto dX7_hangs_127 ?_
          refine nv_iS dX7_hangs_131 (by decide) rfl rfl ?_
          refine nv_inc dX7_hangs_133 rfl (v := 1) (by decide) (by decide) rfl rfl ?_
          refine nv_goto dX7_hangs_136 ?_
          exact ih _ _ _ _ _ _ hf
def pm_hangs_38 (h : nv_Hp) (x3 : Int32)  : Nat → Int32 → Int32 → Option (Int32 × nv_Hp)
  | 0, _, _ => none
  | n + 1, x4, x5 => (if (h 73 45) ≤ x5 then (if x4 = (-1) then some ((-2), h) else (pm_hangs_88 h x4 nv_fu false 0)) else (if nv_inb x5 6 = true then ((pm_hangs_38 h x3 n) (if (h 111 x5.toNatClampNeg) = x3 then x5 else x4) (x5 + 1)) else none))
set_option maxHeartbeats 2000000 in
theorem tm_hangs_38 (G : nv_G) (h : nv_Hp) (x3 : Int32)  : ∀ (n : Nat) (x4 : Int32) (x5 : Int32) (o1 o2 o6 : Option Value) (r : Int32 × nv_Hp), pm_hangs_38 h x3 n x4 x5 = some r → nv_E G 6 qX7_hangs 38 [some (.ref 73), o1, o2, some (.int x3), some (.int x4), some (.int x5), o6] [] (nv_s h) (some (.int r.1), nv_s r.2) := by
  intro n
  induction n with
  | zero =>
    intro x4 x5 o1 o2 o6 r hf
    rw [pm_hangs_38] at hf
    cases hf
  | succ n ih =>
    intro x4 x5 o1 o2 o6 r hf
    rw [pm_hangs_38] at hf
    refine nv_iL dX7_hangs_38 rfl ?_
    refine nv_aL dX7_hangs_40 rfl ?_
    refine nv_tI lf_X7_295 dX7_hangs_41 ko_73 rfl ?_
    refine nv_icge dX7_hangs_44 (fun c1 => ?_) (fun c1 => ?_)
    · replace hf := nv_ip c1 hf
      refine nv_iL dX7_hangs_73 rfl ?_
      refine nv_k dX7_hangs_75 ?_
      refine nv_icne dX7_hangs_76 (fun c2 => ?_) (fun c2 => ?_)
      · replace hf := nv_ip c2 hf
        refine nv_k dX7_hangs_79 ?_
        obtain rfl := Option.some.inj hf
        exact nv_ireturnI dX7_hangs_81 rfl
      · replace hf := nv_in c2 hf
        refine nv_k dX7_hangs_82 ?_
        refine nv_iS dX7_hangs_83 (by decide) rfl rfl ?_
        refine nv_k dX7_hangs_85 ?_
        refine nv_iS dX7_hangs_86 (by decide) rfl rfl ?_
        exact tm_hangs_88 G _ _ _ _ _ _ _ _ _ hf
    · replace hf := nv_in c1 hf
      refine nv_aL dX7_hangs_47 rfl ?_
      refine nv_tR lf_X7_121 dX7_hangs_48 ko_73 rfl ?_
      refine nv_iL dX7_hangs_51 rfl ?_
      obtain ⟨g3, hf⟩ := nv_gd hf
      refine nv_aI dX7_hangs_53 ka_111 g3 rfl ?_
      refine nv_iL dX7_hangs_54 rfl ?_
      refine nv_icne dX7_hangs_55 (fun c4 => ?_) (fun c4 => ?_)
      · try simp only [if_pos c4] at hf
        refine nv_iL dX7_hangs_58 rfl ?_
        refine nv_goto dX7_hangs_60 ?_
        refine nv_iS dX7_hangs_65 (by decide) rfl rfl ?_
        refine nv_inc dX7_hangs_67 rfl (v := 1) (by decide) (by decide) rfl rfl ?_
        refine nv_goto dX7_hangs_70 ?_
        exact ih _ _ _ _ _ _ hf
      · try simp only [if_neg c4] at hf
        refine nv_iL dX7_hangs_63 rfl ?_
        refine nv_iS dX7_hangs_65 (by decide) rfl rfl ?_
        refine nv_inc dX7_hangs_67 rfl (v := 1) (by decide) (by decide) rfl rfl ?_
        refine nv_goto dX7_hangs_70 ?_
        exact ih _ _ _ _ _ _ hf
def pm_hangs (h : nv_Hp) (x1 : Int32) (x2 : Int32) (x3 : Int32) : Option (Int32 × nv_Hp) := (if (pm_isTwo x1) = true then (if (pm_isBargain h x2) = true then (if (pm_isBack h x3) = true then (if nv_inb x1 2 = true then (if nv_inb x2 10 = true then (Option.bind (pm_findWays h x1 x2) fun q6 => (pm_hangs_38 q6 x3 nv_fu (-1) 0)) else none) else none) else some ((-2), h)) else some ((-2), h)) else some ((-2), h))
set_option maxHeartbeats 2000000 in
theorem tm_hangs (G : nv_G) (h : nv_Hp) (x1 : Int32) (x2 : Int32) (x3 : Int32) {r : Int32 × nv_Hp} (hf : (pm_hangs h x1 x2 x3) = some r) : nv_Mt G 6 qX7_hangs [.ref 73, .int x1, .int x2, .int x3] (nv_s h) (some (.int r.1), nv_s r.2) := by
  refine nv_of (by decide +kernel) (fun ad => Nat.le_of_ble_eq_true rfl) (Nat.le_refl _) (Nat.le_of_ble_eq_true rfl) ?_
  show nv_E G 6 qX7_hangs 0 [some (.ref 73), some (.int x1), some (.int x2), some (.int x3), none, none, none] [] (nv_s h) (some (.int r.1), nv_s r.2)
  unfold pm_hangs at hf
  refine nv_iL dX7_hangs_0 rfl ?_
  refine nv_cSi (tm_isTwo G h x1) dX7_hangs_1 lm_X7_171 y_qX7_isTwo rfl (by decide) rfl (Nat.le_of_ble_eq_true rfl) ?_
  refine nv_ifeqB dX7_hangs_4 (fun c1 => ?_) (fun c1 => ?_)
  · replace hf := nv_ip c1 hf
    refine nv_aL dX7_hangs_7 rfl ?_
    refine nv_iL dX7_hangs_8 rfl ?_
    refine nv_cVi (tm_isBargain G h x2) dX7_hangs_9 lm_X7_204 y_qX7_isBargain ko_73 rfl rfl (by decide) rfl (Nat.le_of_ble_eq_true rfl) ?_
    refine nv_ifeqB dX7_hangs_12 (fun c2 => ?_) (fun c2 => ?_)
    · replace hf := nv_ip c2 hf
      refine nv_aL dX7_hangs_15 rfl ?_
      refine nv_iL dX7_hangs_16 rfl ?_
      refine nv_cVi (tm_isBack G h x3) dX7_hangs_17 lm_X7_194 y_qX7_isBack ko_73 rfl rfl (by decide) rfl (Nat.le_of_ble_eq_true rfl) ?_
      refine nv_ifneB dX7_hangs_20 (fun c3 => ?_) (fun c3 => ?_)
      · replace hf := nv_ip c3 hf
        refine nv_aL dX7_hangs_26 rfl ?_
        refine nv_iL dX7_hangs_27 rfl ?_
        refine nv_iL dX7_hangs_28 rfl ?_
        obtain ⟨g4, hf⟩ := nv_gd hf
        obtain ⟨g5, hf⟩ := nv_gd hf
        obtain ⟨q6, hq6, hf⟩ := nv_bd hf
        refine nv_cVv (tm_findWays G h x1 g4 x2 g5 hq6) dX7_hangs_29 lm_X7_301 y_qX7_findWays ko_73 rfl rfl (by decide) rfl (Nat.le_of_ble_eq_true rfl) ?_
        refine nv_k dX7_hangs_32 ?_
        refine nv_iS dX7_hangs_33 (by decide) rfl rfl ?_
        refine nv_k dX7_hangs_35 ?_
        refine nv_iS dX7_hangs_36 (by decide) rfl rfl ?_
        exact tm_hangs_38 G _ _ _ _ _ _ _ _ _ hf
      · replace hf := nv_in c3 hf
        refine nv_k dX7_hangs_23 ?_
        obtain rfl := Option.some.inj hf
        exact nv_ireturnI dX7_hangs_25 rfl
    · replace hf := nv_in c2 hf
      refine nv_k dX7_hangs_23 ?_
      obtain rfl := Option.some.inj hf
      exact nv_ireturnI dX7_hangs_25 rfl
  · replace hf := nv_in c1 hf
    refine nv_k dX7_hangs_23 ?_
    obtain rfl := Option.some.inj hf
    exact nv_ireturnI dX7_hangs_25 rfl
/-! WhoseNameModel.ones -/
theorem dX7_ones_0 : nv_dk qX7_ones 0 0 1 := Or.inl ⟨0, ⟨by decide +kernel, rfl⟩, by decide⟩
theorem dX7_ones_1 : nv_distore qX7_ones 1 1 2 := Or.inr ⟨1, rfl, by decide +kernel, rfl⟩
theorem dX7_ones_2 : nv_diload qX7_ones 2 0 3 := Or.inr ⟨0, rfl, by decide +kernel, rfl⟩
theorem dX7_ones_3 : nv_distore qX7_ones 3 2 4 := Or.inr ⟨2, rfl, by decide +kernel, rfl⟩
theorem dX7_ones_4 : nv_diload qX7_ones 4 2 5 := Or.inr ⟨2, rfl, by decide +kernel, rfl⟩
theorem dX7_ones_5 : nv_dif qX7_ones 5 .eq 20 8 := ⟨15, by decide +kernel, by decide, rfl⟩
theorem dX7_ones_8 : nv_dc qX7_ones 8 (.iinc 1 1) 3 11 := ⟨by decide +kernel, rfl⟩
theorem dX7_ones_11 : nv_diload qX7_ones 11 2 12 := Or.inr ⟨2, rfl, by decide +kernel, rfl⟩
theorem dX7_ones_12 : nv_diload qX7_ones 12 2 13 := Or.inr ⟨2, rfl, by decide +kernel, rfl⟩
theorem dX7_ones_13 : nv_dk qX7_ones 13 1 14 := Or.inl ⟨1, ⟨by decide +kernel, rfl⟩, by decide⟩
theorem dX7_ones_14 : nv_dc qX7_ones 14 (.isub) 1 15 := ⟨by decide +kernel, rfl⟩
theorem dX7_ones_15 : nv_dc qX7_ones 15 (.iand) 1 16 := ⟨by decide +kernel, rfl⟩
theorem dX7_ones_16 : nv_distore qX7_ones 16 2 17 := Or.inr ⟨2, rfl, by decide +kernel, rfl⟩
theorem dX7_ones_17 : nv_dgo qX7_ones 17 4 := ⟨(-13), by decide +kernel, by decide⟩
theorem dX7_ones_20 : nv_diload qX7_ones 20 1 21 := Or.inr ⟨1, rfl, by decide +kernel, rfl⟩
theorem dX7_ones_21 : decode qX7_ones.2.1 21 = .ok (.ireturn, 1) := by decide +kernel
def pm_ones_4 (h : nv_Hp)   : Nat → Int32 → Int32 → Option (Int32)
  | 0, _, _ => none
  | n + 1, x1, x2 => (if x2 = 0 then some x1 else (nv_lt ((x2 &&& (x2 - 1))) fun v2 => ((pm_ones_4 h n) (x1 + 1) v2)))
set_option maxHeartbeats 2000000 in
theorem tm_ones_4 (G : nv_G) (h : nv_Hp)   : ∀ (n : Nat) (x1 : Int32) (x2 : Int32) (o0 : Option Value) (r : Int32), pm_ones_4 h n x1 x2 = some r → nv_E G 0 qX7_ones 4 [o0, some (.int x1), some (.int x2)] [] (nv_s h) (some (.int r), nv_s h) := by
  intro n
  induction n with
  | zero =>
    intro x1 x2 o0 r hf
    rw [pm_ones_4] at hf
    cases hf
  | succ n ih =>
    intro x1 x2 o0 r hf
    rw [pm_ones_4] at hf
    refine nv_iL dX7_ones_4 rfl ?_
    refine nv_ifeq dX7_ones_5 (fun c1 => ?_) (fun c1 => ?_)
    · replace hf := nv_ip c1 hf
      refine nv_iL dX7_ones_20 rfl ?_
      obtain rfl := Option.some.inj hf
      exact nv_ireturnI dX7_ones_21 rfl
    · replace hf := nv_in c1 hf
      refine nv_wk 0 rfl ?_
      refine nv_inc dX7_ones_8 rfl (v := 1) (by decide) (by decide) rfl rfl ?_
      refine nv_iL dX7_ones_11 rfl ?_
      refine nv_iL dX7_ones_12 rfl ?_
      refine nv_k dX7_ones_13 ?_
      refine nv_isub dX7_ones_14 ?_
      refine nv_iand dX7_ones_15 ?_
      obtain ⟨v2, ev2, hf⟩ := nv_ltX hf
      rw [ev2]
      clear ev2
      refine nv_iS dX7_ones_16 (by decide) rfl rfl ?_
      refine nv_goto dX7_ones_17 ?_
      exact ih _ _ _ _ hf
def pm_ones (h : nv_Hp) (x0 : Int32) : Option (Int32) := (pm_ones_4 h nv_fu 0 x0)
set_option maxHeartbeats 2000000 in
theorem tm_ones (G : nv_G) (h : nv_Hp) (x0 : Int32) {r : Int32} (hf : (pm_ones h x0) = some r) : nv_Mt G 0 qX7_ones [.int x0] (nv_s h) (some (.int r), nv_s h) := by
  refine nv_of (by decide +kernel) (fun ad => Nat.le_of_ble_eq_true rfl) (Nat.le_refl _) (Nat.le_of_ble_eq_true rfl) ?_
  show nv_E G 0 qX7_ones 0 [some (.int x0), none, none] [] (nv_s h) (some (.int r), nv_s h)
  unfold pm_ones at hf
  refine nv_k dX7_ones_0 ?_
  refine nv_iS dX7_ones_1 (by decide) rfl rfl ?_
  refine nv_iL dX7_ones_2 rfl ?_
  refine nv_iS dX7_ones_3 (by decide) rfl rfl ?_
  exact tm_ones_4 G _ _ _ _ _ _ hf
/-! WhoseNameModel.isEnough -/
theorem dX7_isEnough_0 : nv_dk qX7_isEnough 0 1 1 := Or.inl ⟨1, ⟨by decide +kernel, rfl⟩, by decide⟩
theorem dX7_isEnough_1 : nv_distore qX7_isEnough 1 2 2 := Or.inr ⟨2, rfl, by decide +kernel, rfl⟩
theorem dX7_isEnough_2 : nv_dk qX7_isEnough 2 0 3 := Or.inl ⟨0, ⟨by decide +kernel, rfl⟩, by decide⟩
theorem dX7_isEnough_3 : nv_distore qX7_isEnough 3 3 4 := Or.inr ⟨3, rfl, by decide +kernel, rfl⟩
theorem dX7_isEnough_4 : nv_diload qX7_isEnough 4 3 5 := Or.inr ⟨3, rfl, by decide +kernel, rfl⟩
theorem dX7_isEnough_5 : nv_dk qX7_isEnough 5 1 6 := Or.inl ⟨1, ⟨by decide +kernel, rfl⟩, by decide⟩
theorem dX7_isEnough_6 : nv_daload qX7_isEnough 6 0 7 := Or.inr ⟨0, rfl, by decide +kernel, rfl⟩
theorem dX7_isEnough_7 : nv_dc qX7_isEnough 7 (.getfield 295) 3 10 := ⟨by decide +kernel, rfl⟩
theorem dX7_isEnough_10 : nv_dc qX7_isEnough 10 (.ishl) 1 11 := ⟨by decide +kernel, rfl⟩
theorem dX7_isEnough_11 : nv_dic qX7_isEnough 11 .ge 47 14 := ⟨36, by decide +kernel, by decide, rfl⟩
theorem dX7_isEnough_14 : nv_diload qX7_isEnough 14 2 15 := Or.inr ⟨2, rfl, by decide +kernel, rfl⟩
theorem dX7_isEnough_15 : nv_dif qX7_isEnough 15 .eq 39 18 := ⟨24, by decide +kernel, by decide, rfl⟩
theorem dX7_isEnough_18 : nv_daload qX7_isEnough 18 0 19 := Or.inr ⟨0, rfl, by decide +kernel, rfl⟩
theorem dX7_isEnough_19 : nv_dc qX7_isEnough 19 (.getfield 124) 3 22 := ⟨by decide +kernel, rfl⟩
theorem dX7_isEnough_22 : nv_diload qX7_isEnough 22 3 23 := Or.inr ⟨3, rfl, by decide +kernel, rfl⟩
theorem dX7_isEnough_23 : nv_dc qX7_isEnough 23 (.iaload) 1 24 := ⟨by decide +kernel, rfl⟩
theorem dX7_isEnough_24 : nv_daload qX7_isEnough 24 0 25 := Or.inr ⟨0, rfl, by decide +kernel, rfl⟩
theorem dX7_isEnough_25 : nv_dc qX7_isEnough 25 (.getfield 124) 3 28 := ⟨by decide +kernel, rfl⟩
theorem dX7_isEnough_28 : nv_diload qX7_isEnough 28 3 29 := Or.inr ⟨3, rfl, by decide +kernel, rfl⟩
theorem dX7_isEnough_29 : nv_diload qX7_isEnough 29 1 30 := Or.inr ⟨1, rfl, by decide +kernel, rfl⟩
theorem dX7_isEnough_30 : nv_dc qX7_isEnough 30 (.iand) 1 31 := ⟨by decide +kernel, rfl⟩
theorem dX7_isEnough_31 : nv_dc qX7_isEnough 31 (.iaload) 1 32 := ⟨by decide +kernel, rfl⟩
theorem dX7_isEnough_32 : nv_dic qX7_isEnough 32 .ne 39 35 := ⟨7, by decide +kernel, by decide, rfl⟩
theorem dX7_isEnough_35 : nv_dk qX7_isEnough 35 1 36 := Or.inl ⟨1, ⟨by decide +kernel, rfl⟩, by decide⟩
theorem dX7_isEnough_36 : nv_dgo qX7_isEnough 36 40 := ⟨4, by decide +kernel, by decide⟩
theorem dX7_isEnough_39 : nv_dk qX7_isEnough 39 0 40 := Or.inl ⟨0, ⟨by decide +kernel, rfl⟩, by decide⟩
theorem dX7_isEnough_40 : nv_distore qX7_isEnough 40 2 41 := Or.inr ⟨2, rfl, by decide +kernel, rfl⟩
theorem dX7_isEnough_41 : nv_dc qX7_isEnough 41 (.iinc 3 1) 3 44 := ⟨by decide +kernel, rfl⟩
theorem dX7_isEnough_44 : nv_dgo qX7_isEnough 44 4 := ⟨(-40), by decide +kernel, by decide⟩
theorem dX7_isEnough_47 : nv_diload qX7_isEnough 47 2 48 := Or.inr ⟨2, rfl, by decide +kernel, rfl⟩
theorem dX7_isEnough_48 : decode qX7_isEnough.2.1 48 = .ok (.ireturn, 1) := by decide +kernel
def pm_isEnough_4 (h : nv_Hp) (x1 : Int32)  : Nat → Bool → Int32 → Option (Bool)
  | 0, _, _ => none
  | n + 1, x2, x3 => (if (1 <<< ((h 73 45) &&& 31)) ≤ x3 then some x2 else (Option.bind ((if x2 = true then (if nv_inb x3 64 = true then (if nv_inb (x3 &&& x1) 64 = true then (if (h 112 x3.toNatClampNeg) = (h 112 (x3 &&& x1).toNatClampNeg) then some (true) else some (false)) else none) else none) else some (false)) : Option (Bool)) fun u4 => (pm_isEnough_4 h x1 n) u4 (x3 + 1)))
set_option maxHeartbeats 2000000 in
theorem tm_isEnough_4 (G : nv_G) (h : nv_Hp) (x1 : Int32)  : ∀ (n : Nat) (x2 : Bool) (x3 : Int32) (r : Bool), pm_isEnough_4 h x1 n x2 x3 = some r → nv_E G 0 qX7_isEnough 4 [some (.ref 73), some (.int x1), some (.int (nv_bi x2)), some (.int x3)] [] (nv_s h) (some (.int (nv_bi r)), nv_s h) := by
  intro n
  induction n with
  | zero =>
    intro x2 x3 r hf
    rw [pm_isEnough_4] at hf
    cases hf
  | succ n ih =>
    intro x2 x3 r hf
    rw [pm_isEnough_4] at hf
    refine nv_iL dX7_isEnough_4 rfl ?_
    refine nv_k dX7_isEnough_5 ?_
    refine nv_aL dX7_isEnough_6 rfl ?_
    refine nv_tI lf_X7_295 dX7_isEnough_7 ko_73 rfl ?_
    refine nv_ishl dX7_isEnough_10 ?_
    refine nv_icge dX7_isEnough_11 (fun c1 => ?_) (fun c1 => ?_)
    · replace hf := nv_ip c1 hf
      refine nv_iL dX7_isEnough_47 rfl ?_
      obtain rfl := Option.some.inj hf
      exact nv_ireturnB (b := x2) dX7_isEnough_48 rfl
    · replace hf := nv_in c1 hf
      refine nv_iL dX7_isEnough_14 rfl ?_
      refine nv_ifeqB dX7_isEnough_15 (fun c5 => ?_) (fun c5 => ?_)
      · try simp only [if_pos c5, Option.bind_some] at hf
        refine nv_aL dX7_isEnough_18 rfl ?_
        refine nv_tR lf_X7_124 dX7_isEnough_19 ko_73 rfl ?_
        refine nv_iL dX7_isEnough_22 rfl ?_
        have g6 : nv_inb x3 64 = true := by
          by_cases g6 : nv_inb x3 64 = true
          · exact g6
          · exfalso; simp [if_neg g6] at hf
        simp only [if_pos g6, Option.bind_some] at hf
        refine nv_aI dX7_isEnough_23 ka_112 g6 rfl ?_
        refine nv_aL dX7_isEnough_24 rfl ?_
        refine nv_tR lf_X7_124 dX7_isEnough_25 ko_73 rfl ?_
        refine nv_iL dX7_isEnough_28 rfl ?_
        refine nv_iL dX7_isEnough_29 rfl ?_
        refine nv_iand dX7_isEnough_30 ?_
        have g7 : nv_inb (x3 &&& x1) 64 = true := by
          by_cases g7 : nv_inb (x3 &&& x1) 64 = true
          · exact g7
          · exfalso; simp [if_neg g7] at hf
        simp only [if_pos g7, Option.bind_some] at hf
        refine nv_aI dX7_isEnough_31 ka_112 g7 rfl ?_
        refine nv_icne dX7_isEnough_32 (fun c8 => ?_) (fun c8 => ?_)
        · try simp only [if_pos c8, Option.bind_some] at hf
          refine nv_k dX7_isEnough_35 ?_
          refine nv_goto dX7_isEnough_36 ?_
          refine nv_iS dX7_isEnough_40 (by decide) rfl rfl ?_
          refine nv_inc dX7_isEnough_41 rfl (v := 1) (by decide) (by decide) rfl rfl ?_
          refine nv_goto dX7_isEnough_44 ?_
          exact ih _ _ _ hf
        · try simp only [if_neg c8, Option.bind_some] at hf
          refine nv_k dX7_isEnough_39 ?_
          refine nv_iS dX7_isEnough_40 (by decide) rfl rfl ?_
          refine nv_inc dX7_isEnough_41 rfl (v := 1) (by decide) (by decide) rfl rfl ?_
          refine nv_goto dX7_isEnough_44 ?_
          exact ih _ _ _ hf
      · try simp only [if_neg c5, Option.bind_some] at hf
        refine nv_k dX7_isEnough_39 ?_
        refine nv_iS dX7_isEnough_40 (by decide) rfl rfl ?_
        refine nv_inc dX7_isEnough_41 rfl (v := 1) (by decide) (by decide) rfl rfl ?_
        refine nv_goto dX7_isEnough_44 ?_
        exact ih _ _ _ hf
def pm_isEnough (h : nv_Hp) (x1 : Int32) : Option (Bool) := (pm_isEnough_4 h x1 nv_fu true 0)
set_option maxHeartbeats 2000000 in
theorem tm_isEnough (G : nv_G) (h : nv_Hp) (x1 : Int32) {r : Bool} (hf : (pm_isEnough h x1) = some r) : nv_Mt G 0 qX7_isEnough [.ref 73, .int x1] (nv_s h) (some (.int (nv_bi r)), nv_s h) := by
  refine nv_of (by decide +kernel) (fun ad => Nat.le_of_ble_eq_true rfl) (Nat.le_refl _) (Nat.le_of_ble_eq_true rfl) ?_
  show nv_E G 0 qX7_isEnough 0 [some (.ref 73), some (.int x1), none, none] [] (nv_s h) (some (.int (nv_bi r)), nv_s h)
  unfold pm_isEnough at hf
  refine nv_k dX7_isEnough_0 ?_
  refine nv_iS dX7_isEnough_1 (by decide) rfl rfl ?_
  refine nv_k dX7_isEnough_2 ?_
  refine nv_iS dX7_isEnough_3 (by decide) rfl rfl ?_
  exact tm_isEnough_4 G _ _ _ _ _ _ hf
/-! WhoseNameModel.wanted -/
theorem dX7_wanted_0 : nv_diload qX7_wanted 0 1 1 := Or.inr ⟨1, rfl, by decide +kernel, rfl⟩
theorem dX7_wanted_1 : nv_dc qX7_wanted 1 (.invokestatic 171) 3 4 := ⟨by decide +kernel, rfl⟩
theorem dX7_wanted_4 : nv_dif qX7_wanted 4 .eq 15 7 := ⟨11, by decide +kernel, by decide, rfl⟩
theorem dX7_wanted_7 : nv_daload qX7_wanted 7 0 8 := Or.inr ⟨0, rfl, by decide +kernel, rfl⟩
theorem dX7_wanted_8 : nv_diload qX7_wanted 8 2 9 := Or.inr ⟨2, rfl, by decide +kernel, rfl⟩
theorem dX7_wanted_9 : nv_dc qX7_wanted 9 (.invokevirtual 204) 3 12 := ⟨by decide +kernel, rfl⟩
theorem dX7_wanted_12 : nv_dif qX7_wanted 12 .ne 18 15 := ⟨6, by decide +kernel, by decide, rfl⟩
theorem dX7_wanted_15 : nv_dk qX7_wanted 15 (-2) 17 := Or.inr (Or.inl ⟨(-2), ⟨by decide +kernel, rfl⟩, by decide⟩)
theorem dX7_wanted_17 : decode qX7_wanted.2.1 17 = .ok (.ireturn, 1) := by decide +kernel
theorem dX7_wanted_18 : nv_daload qX7_wanted 18 0 19 := Or.inr ⟨0, rfl, by decide +kernel, rfl⟩
theorem dX7_wanted_19 : nv_diload qX7_wanted 19 1 20 := Or.inr ⟨1, rfl, by decide +kernel, rfl⟩
theorem dX7_wanted_20 : nv_diload qX7_wanted 20 2 21 := Or.inr ⟨2, rfl, by decide +kernel, rfl⟩
theorem dX7_wanted_21 : nv_dc qX7_wanted 21 (.invokevirtual 301) 3 24 := ⟨by decide +kernel, rfl⟩
theorem dX7_wanted_24 : nv_dk qX7_wanted 24 (-1) 25 := Or.inl ⟨(-1), ⟨by decide +kernel, rfl⟩, by decide⟩
theorem dX7_wanted_25 : nv_distore qX7_wanted 25 3 26 := Or.inr ⟨3, rfl, by decide +kernel, rfl⟩
theorem dX7_wanted_26 : nv_dk qX7_wanted 26 0 27 := Or.inl ⟨0, ⟨by decide +kernel, rfl⟩, by decide⟩
theorem dX7_wanted_27 : nv_distore qX7_wanted 27 4 29 := Or.inl ⟨by decide +kernel, rfl⟩
theorem dX7_wanted_29 : nv_diload qX7_wanted 29 4 31 := Or.inl ⟨by decide +kernel, rfl⟩
theorem dX7_wanted_31 : nv_dk qX7_wanted 31 1 32 := Or.inl ⟨1, ⟨by decide +kernel, rfl⟩, by decide⟩
theorem dX7_wanted_32 : nv_daload qX7_wanted 32 0 33 := Or.inr ⟨0, rfl, by decide +kernel, rfl⟩
theorem dX7_wanted_33 : nv_dc qX7_wanted 33 (.getfield 295) 3 36 := ⟨by decide +kernel, rfl⟩
theorem dX7_wanted_36 : nv_dc qX7_wanted 36 (.ishl) 1 37 := ⟨by decide +kernel, rfl⟩
theorem dX7_wanted_37 : nv_dic qX7_wanted 37 .ge 91 40 := ⟨54, by decide +kernel, by decide, rfl⟩
theorem dX7_wanted_40 : nv_diload qX7_wanted 40 3 41 := Or.inr ⟨3, rfl, by decide +kernel, rfl⟩
theorem dX7_wanted_41 : nv_dk qX7_wanted 41 (-1) 42 := Or.inl ⟨(-1), ⟨by decide +kernel, rfl⟩, by decide⟩
theorem dX7_wanted_42 : nv_dic qX7_wanted 42 .eq 57 45 := ⟨15, by decide +kernel, by decide, rfl⟩
theorem dX7_wanted_45 : nv_diload qX7_wanted 45 4 47 := Or.inl ⟨by decide +kernel, rfl⟩
theorem dX7_wanted_47 : nv_dc qX7_wanted 47 (.invokestatic 305) 3 50 := ⟨by decide +kernel, rfl⟩
theorem dX7_wanted_50 : nv_diload qX7_wanted 50 3 51 := Or.inr ⟨3, rfl, by decide +kernel, rfl⟩
theorem dX7_wanted_51 : nv_dc qX7_wanted 51 (.invokestatic 305) 3 54 := ⟨by decide +kernel, rfl⟩
theorem dX7_wanted_54 : nv_dic qX7_wanted 54 .ge 61 57 := ⟨7, by decide +kernel, by decide, rfl⟩
theorem dX7_wanted_57 : nv_dk qX7_wanted 57 1 58 := Or.inl ⟨1, ⟨by decide +kernel, rfl⟩, by decide⟩
theorem dX7_wanted_58 : nv_dgo qX7_wanted 58 62 := ⟨4, by decide +kernel, by decide⟩
theorem dX7_wanted_61 : nv_dk qX7_wanted 61 0 62 := Or.inl ⟨0, ⟨by decide +kernel, rfl⟩, by decide⟩
theorem dX7_wanted_62 : nv_distore qX7_wanted 62 5 64 := Or.inl ⟨by decide +kernel, rfl⟩
theorem dX7_wanted_64 : nv_diload qX7_wanted 64 5 66 := Or.inl ⟨by decide +kernel, rfl⟩
theorem dX7_wanted_66 : nv_dif qX7_wanted 66 .eq 83 69 := ⟨17, by decide +kernel, by decide, rfl⟩
theorem dX7_wanted_69 : nv_daload qX7_wanted 69 0 70 := Or.inr ⟨0, rfl, by decide +kernel, rfl⟩
theorem dX7_wanted_70 : nv_diload qX7_wanted 70 4 72 := Or.inl ⟨by decide +kernel, rfl⟩
theorem dX7_wanted_72 : nv_dc qX7_wanted 72 (.invokevirtual 308) 3 75 := ⟨by decide +kernel, rfl⟩
theorem dX7_wanted_75 : nv_dif qX7_wanted 75 .eq 83 78 := ⟨8, by decide +kernel, by decide, rfl⟩
theorem dX7_wanted_78 : nv_diload qX7_wanted 78 4 80 := Or.inl ⟨by decide +kernel, rfl⟩
theorem dX7_wanted_80 : nv_dgo qX7_wanted 80 84 := ⟨4, by decide +kernel, by decide⟩
theorem dX7_wanted_83 : nv_diload qX7_wanted 83 3 84 := Or.inr ⟨3, rfl, by decide +kernel, rfl⟩
theorem dX7_wanted_84 : nv_distore qX7_wanted 84 3 85 := Or.inr ⟨3, rfl, by decide +kernel, rfl⟩
theorem dX7_wanted_85 : nv_dc qX7_wanted 85 (.iinc 4 1) 3 88 := ⟨by decide +kernel, rfl⟩
theorem dX7_wanted_88 : nv_dgo qX7_wanted 88 29 := ⟨(-59), by decide +kernel, by decide⟩
theorem dX7_wanted_91 : nv_dk qX7_wanted 91 0 92 := Or.inl ⟨0, ⟨by decide +kernel, rfl⟩, by decide⟩
theorem dX7_wanted_92 : nv_distore qX7_wanted 92 4 94 := Or.inl ⟨by decide +kernel, rfl⟩
theorem dX7_wanted_94 : nv_dk qX7_wanted 94 0 95 := Or.inl ⟨0, ⟨by decide +kernel, rfl⟩, by decide⟩
theorem dX7_wanted_95 : nv_distore qX7_wanted 95 5 97 := Or.inl ⟨by decide +kernel, rfl⟩
theorem dX7_wanted_97 : nv_diload qX7_wanted 97 5 99 := Or.inl ⟨by decide +kernel, rfl⟩
theorem dX7_wanted_99 : nv_daload qX7_wanted 99 0 100 := Or.inr ⟨0, rfl, by decide +kernel, rfl⟩
theorem dX7_wanted_100 : nv_dc qX7_wanted 100 (.getfield 295) 3 103 := ⟨by decide +kernel, rfl⟩
theorem dX7_wanted_103 : nv_dic qX7_wanted 103 .ge 140 106 := ⟨37, by decide +kernel, by decide, rfl⟩
theorem dX7_wanted_106 : nv_diload qX7_wanted 106 4 108 := Or.inl ⟨by decide +kernel, rfl⟩
theorem dX7_wanted_108 : nv_diload qX7_wanted 108 3 109 := Or.inr ⟨3, rfl, by decide +kernel, rfl⟩
theorem dX7_wanted_109 : nv_diload qX7_wanted 109 5 111 := Or.inl ⟨by decide +kernel, rfl⟩
theorem dX7_wanted_111 : nv_dc qX7_wanted 111 (.ishr) 1 112 := ⟨by decide +kernel, rfl⟩
theorem dX7_wanted_112 : nv_dk qX7_wanted 112 1 113 := Or.inl ⟨1, ⟨by decide +kernel, rfl⟩, by decide⟩
theorem dX7_wanted_113 : nv_dc qX7_wanted 113 (.iand) 1 114 := ⟨by decide +kernel, rfl⟩
theorem dX7_wanted_114 : nv_dk qX7_wanted 114 1 115 := Or.inl ⟨1, ⟨by decide +kernel, rfl⟩, by decide⟩
theorem dX7_wanted_115 : nv_dic qX7_wanted 115 .ne 130 118 := ⟨15, by decide +kernel, by decide, rfl⟩
theorem dX7_wanted_118 : nv_dk qX7_wanted 118 1 119 := Or.inl ⟨1, ⟨by decide +kernel, rfl⟩, by decide⟩
theorem dX7_wanted_119 : nv_daload qX7_wanted 119 0 120 := Or.inr ⟨0, rfl, by decide +kernel, rfl⟩
theorem dX7_wanted_120 : nv_dc qX7_wanted 120 (.getfield 121) 3 123 := ⟨by decide +kernel, rfl⟩
theorem dX7_wanted_123 : nv_diload qX7_wanted 123 5 125 := Or.inl ⟨by decide +kernel, rfl⟩
theorem dX7_wanted_125 : nv_dc qX7_wanted 125 (.iaload) 1 126 := ⟨by decide +kernel, rfl⟩
theorem dX7_wanted_126 : nv_dc qX7_wanted 126 (.ishl) 1 127 := ⟨by decide +kernel, rfl⟩
theorem dX7_wanted_127 : nv_dgo qX7_wanted 127 131 := ⟨4, by decide +kernel, by decide⟩
theorem dX7_wanted_130 : nv_dk qX7_wanted 130 0 131 := Or.inl ⟨0, ⟨by decide +kernel, rfl⟩, by decide⟩
theorem dX7_wanted_131 : nv_dc qX7_wanted 131 (.ior) 1 132 := ⟨by decide +kernel, rfl⟩
theorem dX7_wanted_132 : nv_distore qX7_wanted 132 4 134 := Or.inl ⟨by decide +kernel, rfl⟩
theorem dX7_wanted_134 : nv_dc qX7_wanted 134 (.iinc 5 1) 3 137 := ⟨by decide +kernel, rfl⟩
theorem dX7_wanted_137 : nv_dgo qX7_wanted 137 97 := ⟨(-40), by decide +kernel, by decide⟩
theorem dX7_wanted_140 : nv_diload qX7_wanted 140 4 142 := Or.inl ⟨by decide +kernel, rfl⟩
theorem dX7_wanted_142 : decode qX7_wanted.2.1 142 = .ok (.ireturn, 1) := by decide +kernel
def pm_wanted_131 (h : nv_Hp) (x3 : Int32) (x5 : Int32) (s0 : Int32) (s1 : Int32) (rec97 : Int32 → Int32 → Option (Int32 × nv_Hp)) : Option (Int32 × nv_Hp) := (nv_lt ((s0 ||| s1)) fun v1 => (rec97 v1 (x5 + 1)))
set_option maxHeartbeats 2000000 in
theorem tm_wanted_131 (G : nv_G) (h : nv_Hp) (x3 : Int32) (x5 : Int32) (s0 : Int32) (s1 : Int32) (rec97 : Int32 → Int32 → Option (Int32 × nv_Hp)) (hrec97 : ∀ (x4 : Int32) (x5 : Int32) (o1 o2 : Option Value) (r : Int32 × nv_Hp), rec97 x4 x5 = some r → nv_E G 6 qX7_wanted 97 [some (.ref 73), o1, o2, some (.int x3), some (.int x4), some (.int x5)] [] (nv_s h) (some (.int r.1), nv_s r.2)) (o1 o2 o4 : Option Value) (r : Int32 × nv_Hp) (hf : pm_wanted_131 h x3 x5 s0 s1 rec97 = some r) : nv_E G 6 qX7_wanted 131 [some (.ref 73), o1, o2, some (.int x3), o4, some (.int x5)] [.int s1, .int s0] (nv_s h) (some (.int r.1), nv_s r.2) := by
  unfold pm_wanted_131 at hf
  refine nv_ior dX7_wanted_131 ?_
  obtain ⟨v1, ev1, hf⟩ := nv_ltX hf
  rw [ev1]
  clear ev1
  refine nv_iS dX7_wanted_132 (by decide) rfl rfl ?_
  refine nv_inc dX7_wanted_134 rfl (v := 1) (by decide) (by decide) rfl rfl ?_
  refine nv_goto dX7_wanted_137 ?_
  exact hrec97 _ _ _ _ _ hf
def pm_wanted_97 (h : nv_Hp) (x3 : Int32)  : Nat → Int32 → Int32 → Option (Int32 × nv_Hp)
  | 0, _, _ => none
  | n + 1, x4, x5 => (if (h 73 45) ≤ x5 then some (x4, h) else (Option.bind ((if ((x3 >>> (x5 &&& 31)) &&& 1) = 1 then (if nv_inb x5 6 = true then some ((1 <<< ((h 111 x5.toNatClampNeg) &&& 31))) else none) else some (0)) : Option (Int32)) fun u3 => pm_wanted_131 h x3 x5 x4 u3 (pm_wanted_97 h x3 n)))
set_option maxHeartbeats 2000000 in
theorem tm_wanted_97 (G : nv_G) (h : nv_Hp) (x3 : Int32)  : ∀ (n : Nat) (x4 : Int32) (x5 : Int32) (o1 o2 : Option Value) (r : Int32 × nv_Hp), pm_wanted_97 h x3 n x4 x5 = some r → nv_E G 6 qX7_wanted 97 [some (.ref 73), o1, o2, some (.int x3), some (.int x4), some (.int x5)] [] (nv_s h) (some (.int r.1), nv_s r.2) := by
  intro n
  induction n with
  | zero =>
    intro x4 x5 o1 o2 r hf
    rw [pm_wanted_97] at hf
    cases hf
  | succ n ih =>
    intro x4 x5 o1 o2 r hf
    rw [pm_wanted_97] at hf
    refine nv_iL dX7_wanted_97 rfl ?_
    refine nv_aL dX7_wanted_99 rfl ?_
    refine nv_tI lf_X7_295 dX7_wanted_100 ko_73 rfl ?_
    refine nv_icge dX7_wanted_103 (fun c1 => ?_) (fun c1 => ?_)
    · replace hf := nv_ip c1 hf
      refine nv_iL dX7_wanted_140 rfl ?_
      obtain rfl := Option.some.inj hf
      exact nv_ireturnI dX7_wanted_142 rfl
    · replace hf := nv_in c1 hf
      refine nv_iL dX7_wanted_106 rfl ?_
      refine nv_iL dX7_wanted_108 rfl ?_
      refine nv_iL dX7_wanted_109 rfl ?_
      refine nv_ishr dX7_wanted_111 ?_
      refine nv_k dX7_wanted_112 ?_
      refine nv_iand dX7_wanted_113 ?_
      refine nv_k dX7_wanted_114 ?_
      refine nv_icne dX7_wanted_115 (fun c4 => ?_) (fun c4 => ?_)
      · try simp only [if_pos c4, Option.bind_some] at hf
        refine nv_k dX7_wanted_118 ?_
        refine nv_aL dX7_wanted_119 rfl ?_
        refine nv_tR lf_X7_121 dX7_wanted_120 ko_73 rfl ?_
        refine nv_iL dX7_wanted_123 rfl ?_
        have g5 : nv_inb x5 6 = true := by
          by_cases g5 : nv_inb x5 6 = true
          · exact g5
          · exfalso; simp [if_neg g5] at hf
        simp only [if_pos g5, Option.bind_some] at hf
        refine nv_aI dX7_wanted_125 ka_111 g5 rfl ?_
        refine nv_ishl dX7_wanted_126 ?_
        refine nv_goto dX7_wanted_127 ?_
        exact tm_wanted_131 G _ _ _ _ _ _ ih _ _ _ _ hf
      · try simp only [if_neg c4, Option.bind_some] at hf
        refine nv_k dX7_wanted_130 ?_
        exact tm_wanted_131 G _ _ _ _ _ _ ih _ _ _ _ hf
def pm_wanted_62 (h : nv_Hp) (x3 : Int32) (x4 : Int32) (s0 : Bool) (rec29 : Int32 → Int32 → Option (Int32 × nv_Hp)) : Option (Int32 × nv_Hp) := (Option.bind ((if s0 = true then (Option.bind (pm_isEnough h x4) fun q1 => (if q1 = true then some (x4) else some (x3))) else some (x3)) : Option (Int32)) fun u2 => rec29 u2 (x4 + 1))
set_option maxHeartbeats 2000000 in
theorem tm_wanted_62 (G : nv_G) (h : nv_Hp) (x3 : Int32) (x4 : Int32) (s0 : Bool) (rec29 : Int32 → Int32 → Option (Int32 × nv_Hp)) (hrec29 : ∀ (x3 : Int32) (x4 : Int32) (o1 o2 o5 : Option Value) (r : Int32 × nv_Hp), rec29 x3 x4 = some r → nv_E G 6 qX7_wanted 29 [some (.ref 73), o1, o2, some (.int x3), some (.int x4), o5] [] (nv_s h) (some (.int r.1), nv_s r.2)) (o1 o2 o5 : Option Value) (r : Int32 × nv_Hp) (hf : pm_wanted_62 h x3 x4 s0 rec29 = some r) : nv_E G 6 qX7_wanted 62 [some (.ref 73), o1, o2, some (.int x3), some (.int x4), o5] [.int (nv_bi s0)] (nv_s h) (some (.int r.1), nv_s r.2) := by
  unfold pm_wanted_62 at hf
  refine nv_iS dX7_wanted_62 (by decide) rfl rfl ?_
  refine nv_iL dX7_wanted_64 rfl ?_
  refine nv_ifeqB dX7_wanted_66 (fun c3 => ?_) (fun c3 => ?_)
  · try simp only [if_pos c3, Option.bind_some] at hf
    refine nv_aL dX7_wanted_69 rfl ?_
    refine nv_iL dX7_wanted_70 rfl ?_
    obtain ⟨q4, hq4⟩ : ∃ q, pm_isEnough h x4 = some q := by
      cases hq4 : pm_isEnough h x4 with
      | none => exfalso; simp [hq4] at hf
      | some q => exact ⟨q, rfl⟩
    simp only [hq4, Option.bind_some] at hf
    refine nv_cVi (tm_isEnough G h x4 hq4) dX7_wanted_72 lm_X7_308 y_qX7_isEnough ko_73 rfl rfl (by decide) rfl (Nat.le_of_ble_eq_true rfl) ?_
    refine nv_ifeqB dX7_wanted_75 (fun c5 => ?_) (fun c5 => ?_)
    · try simp only [if_pos c5, Option.bind_some] at hf
      refine nv_iL dX7_wanted_78 rfl ?_
      refine nv_goto dX7_wanted_80 ?_
      refine nv_wk 2 rfl ?_
      refine nv_iS dX7_wanted_84 (by decide) rfl rfl ?_
      refine nv_inc dX7_wanted_85 rfl (v := 1) (by decide) (by decide) rfl rfl ?_
      refine nv_goto dX7_wanted_88 ?_
      exact hrec29 _ _ _ _ _ _ hf
    · try simp only [if_neg c5, Option.bind_some] at hf
      refine nv_iL dX7_wanted_83 rfl ?_
      refine nv_wk 2 rfl ?_
      refine nv_iS dX7_wanted_84 (by decide) rfl rfl ?_
      refine nv_inc dX7_wanted_85 rfl (v := 1) (by decide) (by decide) rfl rfl ?_
      refine nv_goto dX7_wanted_88 ?_
      exact hrec29 _ _ _ _ _ _ hf
  · try simp only [if_neg c3, Option.bind_some] at hf
    refine nv_iL dX7_wanted_83 rfl ?_
    refine nv_wk 2 rfl ?_
    refine nv_iS dX7_wanted_84 (by decide) rfl rfl ?_
    refine nv_inc dX7_wanted_85 rfl (v := 1) (by decide) (by decide) rfl rfl ?_
    refine nv_goto dX7_wanted_88 ?_
    exact hrec29 _ _ _ _ _ _ hf
def pm_wanted_29 (h : nv_Hp)   : Nat → Int32 → Int32 → Option (Int32 × nv_Hp)
  | 0, _, _ => none
  | n + 1, x3, x4 => (if (1 <<< ((h 73 45) &&& 31)) ≤ x4 then (pm_wanted_97 h x3 nv_fu 0 0) else (Option.bind ((if x3 = (-1) then some (true) else (Option.bind (pm_ones h x4) fun q2 => (Option.bind (pm_ones h x3) fun q3 => (if q3 ≤ q2 then some (false) else some (true))))) : Option (Bool)) fun u4 => pm_wanted_62 h x3 x4 u4 (pm_wanted_29 h n)))
set_option maxHeartbeats 2000000 in
theorem tm_wanted_29 (G : nv_G) (h : nv_Hp)   : ∀ (n : Nat) (x3 : Int32) (x4 : Int32) (o1 o2 o5 : Option Value) (r : Int32 × nv_Hp), pm_wanted_29 h n x3 x4 = some r → nv_E G 6 qX7_wanted 29 [some (.ref 73), o1, o2, some (.int x3), some (.int x4), o5] [] (nv_s h) (some (.int r.1), nv_s r.2) := by
  intro n
  induction n with
  | zero =>
    intro x3 x4 o1 o2 o5 r hf
    rw [pm_wanted_29] at hf
    cases hf
  | succ n ih =>
    intro x3 x4 o1 o2 o5 r hf
    rw [pm_wanted_29] at hf
    refine nv_iL dX7_wanted_29 rfl ?_
    refine nv_k dX7_wanted_31 ?_
    refine nv_aL dX7_wanted_32 rfl ?_
    refine nv_tI lf_X7_295 dX7_wanted_33 ko_73 rfl ?_
    refine nv_ishl dX7_wanted_36 ?_
    refine nv_icge dX7_wanted_37 (fun c1 => ?_) (fun c1 => ?_)
    · replace hf := nv_ip c1 hf
      refine nv_k dX7_wanted_91 ?_
      refine nv_iS dX7_wanted_92 (by decide) rfl rfl ?_
      refine nv_k dX7_wanted_94 ?_
      refine nv_iS dX7_wanted_95 (by decide) rfl rfl ?_
      exact tm_wanted_97 G _ _ _ _ _ _ _ _ hf
    · replace hf := nv_in c1 hf
      refine nv_iL dX7_wanted_40 rfl ?_
      refine nv_k dX7_wanted_41 ?_
      refine nv_iceq dX7_wanted_42 (fun c5 => ?_) (fun c5 => ?_)
      · try simp only [if_pos c5, Option.bind_some] at hf
        refine nv_k dX7_wanted_57 ?_
        refine nv_goto dX7_wanted_58 ?_
        exact tm_wanted_62 G _ _ _ _ _ ih _ _ _ _ hf
      · try simp only [if_neg c5, Option.bind_some] at hf
        refine nv_iL dX7_wanted_45 rfl ?_
        obtain ⟨q6, hq6⟩ : ∃ q, pm_ones h x4 = some q := by
          cases hq6 : pm_ones h x4 with
          | none => exfalso; simp [hq6] at hf
          | some q => exact ⟨q, rfl⟩
        simp only [hq6, Option.bind_some] at hf
        refine nv_cSi (tm_ones G h x4 hq6) dX7_wanted_47 lm_X7_305 y_qX7_ones rfl (by decide) rfl (Nat.le_of_ble_eq_true rfl) ?_
        refine nv_iL dX7_wanted_50 rfl ?_
        obtain ⟨q7, hq7⟩ : ∃ q, pm_ones h x3 = some q := by
          cases hq7 : pm_ones h x3 with
          | none => exfalso; simp [hq7] at hf
          | some q => exact ⟨q, rfl⟩
        simp only [hq7, Option.bind_some] at hf
        refine nv_cSi (tm_ones G h x3 hq7) dX7_wanted_51 lm_X7_305 y_qX7_ones rfl (by decide) rfl (Nat.le_of_ble_eq_true rfl) ?_
        refine nv_icge dX7_wanted_54 (fun c8 => ?_) (fun c8 => ?_)
        · try simp only [if_pos c8, Option.bind_some] at hf
          refine nv_k dX7_wanted_61 ?_
          exact tm_wanted_62 G _ _ _ _ _ ih _ _ _ _ hf
        · try simp only [if_neg c8, Option.bind_some] at hf
          refine nv_k dX7_wanted_57 ?_
          refine nv_goto dX7_wanted_58 ?_
          exact tm_wanted_62 G _ _ _ _ _ ih _ _ _ _ hf
def pm_wanted (h : nv_Hp) (x1 : Int32) (x2 : Int32) : Option (Int32 × nv_Hp) := (if (pm_isTwo x1) = true then (if (pm_isBargain h x2) = true then (if nv_inb x1 2 = true then (if nv_inb x2 10 = true then (Option.bind (pm_findWays h x1 x2) fun q5 => (pm_wanted_29 q5 nv_fu (-1) 0)) else none) else none) else some ((-2), h)) else some ((-2), h))
set_option maxHeartbeats 2000000 in
theorem tm_wanted (G : nv_G) (h : nv_Hp) (x1 : Int32) (x2 : Int32) {r : Int32 × nv_Hp} (hf : (pm_wanted h x1 x2) = some r) : nv_Mt G 6 qX7_wanted [.ref 73, .int x1, .int x2] (nv_s h) (some (.int r.1), nv_s r.2) := by
  refine nv_of (by decide +kernel) (fun ad => Nat.le_of_ble_eq_true rfl) (Nat.le_refl _) (Nat.le_of_ble_eq_true rfl) ?_
  show nv_E G 6 qX7_wanted 0 [some (.ref 73), some (.int x1), some (.int x2), none, none, none] [] (nv_s h) (some (.int r.1), nv_s r.2)
  unfold pm_wanted at hf
  refine nv_iL dX7_wanted_0 rfl ?_
  refine nv_cSi (tm_isTwo G h x1) dX7_wanted_1 lm_X7_171 y_qX7_isTwo rfl (by decide) rfl (Nat.le_of_ble_eq_true rfl) ?_
  refine nv_ifeqB dX7_wanted_4 (fun c1 => ?_) (fun c1 => ?_)
  · replace hf := nv_ip c1 hf
    refine nv_aL dX7_wanted_7 rfl ?_
    refine nv_iL dX7_wanted_8 rfl ?_
    refine nv_cVi (tm_isBargain G h x2) dX7_wanted_9 lm_X7_204 y_qX7_isBargain ko_73 rfl rfl (by decide) rfl (Nat.le_of_ble_eq_true rfl) ?_
    refine nv_ifneB dX7_wanted_12 (fun c2 => ?_) (fun c2 => ?_)
    · replace hf := nv_ip c2 hf
      refine nv_aL dX7_wanted_18 rfl ?_
      refine nv_iL dX7_wanted_19 rfl ?_
      refine nv_iL dX7_wanted_20 rfl ?_
      obtain ⟨g3, hf⟩ := nv_gd hf
      obtain ⟨g4, hf⟩ := nv_gd hf
      obtain ⟨q5, hq5, hf⟩ := nv_bd hf
      refine nv_cVv (tm_findWays G h x1 g3 x2 g4 hq5) dX7_wanted_21 lm_X7_301 y_qX7_findWays ko_73 rfl rfl (by decide) rfl (Nat.le_of_ble_eq_true rfl) ?_
      refine nv_k dX7_wanted_24 ?_
      refine nv_iS dX7_wanted_25 (by decide) rfl rfl ?_
      refine nv_k dX7_wanted_26 ?_
      refine nv_iS dX7_wanted_27 (by decide) rfl rfl ?_
      exact tm_wanted_29 G _ _ _ _ _ _ _ _ hf
    · replace hf := nv_in c2 hf
      refine nv_k dX7_wanted_15 ?_
      obtain rfl := Option.some.inj hf
      exact nv_ireturnI dX7_wanted_17 rfl
  · replace hf := nv_in c1 hf
    refine nv_k dX7_wanted_15 ?_
    obtain rfl := Option.some.inj hf
    exact nv_ireturnI dX7_wanted_17 rfl
/-! WhoseNameModel.turnedOf -/
theorem dX7_turnedOf_0 : nv_daload qX7_turnedOf 0 0 1 := Or.inr ⟨0, rfl, by decide +kernel, rfl⟩
theorem dX7_turnedOf_1 : nv_dk qX7_turnedOf 1 0 2 := Or.inl ⟨0, ⟨by decide +kernel, rfl⟩, by decide⟩
theorem dX7_turnedOf_2 : nv_dc qX7_turnedOf 2 (.invokevirtual 238) 3 5 := ⟨by decide +kernel, rfl⟩
theorem dX7_turnedOf_5 : nv_dc qX7_turnedOf 5 (.pop) 1 6 := ⟨by decide +kernel, rfl⟩
theorem dX7_turnedOf_6 : nv_daload qX7_turnedOf 6 0 7 := Or.inr ⟨0, rfl, by decide +kernel, rfl⟩
theorem dX7_turnedOf_7 : nv_dk qX7_turnedOf 7 1 8 := Or.inl ⟨1, ⟨by decide +kernel, rfl⟩, by decide⟩
theorem dX7_turnedOf_8 : nv_dc qX7_turnedOf 8 (.invokevirtual 268) 3 11 := ⟨by decide +kernel, rfl⟩
theorem dX7_turnedOf_11 : nv_daload qX7_turnedOf 11 0 12 := Or.inr ⟨0, rfl, by decide +kernel, rfl⟩
theorem dX7_turnedOf_12 : nv_diload qX7_turnedOf 12 1 13 := Or.inr ⟨1, rfl, by decide +kernel, rfl⟩
theorem dX7_turnedOf_13 : nv_dc qX7_turnedOf 13 (.invokevirtual 271) 3 16 := ⟨by decide +kernel, rfl⟩
theorem dX7_turnedOf_16 : nv_distore qX7_turnedOf 16 2 17 := Or.inr ⟨2, rfl, by decide +kernel, rfl⟩
theorem dX7_turnedOf_17 : nv_dk qX7_turnedOf 17 (-1) 18 := Or.inl ⟨(-1), ⟨by decide +kernel, rfl⟩, by decide⟩
theorem dX7_turnedOf_18 : nv_distore qX7_turnedOf 18 3 19 := Or.inr ⟨3, rfl, by decide +kernel, rfl⟩
theorem dX7_turnedOf_19 : nv_dk qX7_turnedOf 19 0 20 := Or.inl ⟨0, ⟨by decide +kernel, rfl⟩, by decide⟩
theorem dX7_turnedOf_20 : nv_distore qX7_turnedOf 20 4 22 := Or.inl ⟨by decide +kernel, rfl⟩
theorem dX7_turnedOf_22 : nv_diload qX7_turnedOf 22 4 24 := Or.inl ⟨by decide +kernel, rfl⟩
theorem dX7_turnedOf_24 : nv_dk qX7_turnedOf 24 512 27 := Or.inr (Or.inr ⟨512, ⟨by decide +kernel, rfl⟩, by decide⟩)
theorem dX7_turnedOf_27 : nv_dic qX7_turnedOf 27 .ge 110 30 := ⟨83, by decide +kernel, by decide, rfl⟩
theorem dX7_turnedOf_30 : nv_diload qX7_turnedOf 30 3 31 := Or.inr ⟨3, rfl, by decide +kernel, rfl⟩
theorem dX7_turnedOf_31 : nv_dk qX7_turnedOf 31 (-1) 32 := Or.inl ⟨(-1), ⟨by decide +kernel, rfl⟩, by decide⟩
theorem dX7_turnedOf_32 : nv_dic qX7_turnedOf 32 .eq 47 35 := ⟨15, by decide +kernel, by decide, rfl⟩
theorem dX7_turnedOf_35 : nv_diload qX7_turnedOf 35 4 37 := Or.inl ⟨by decide +kernel, rfl⟩
theorem dX7_turnedOf_37 : nv_dc qX7_turnedOf 37 (.invokestatic 305) 3 40 := ⟨by decide +kernel, rfl⟩
theorem dX7_turnedOf_40 : nv_diload qX7_turnedOf 40 3 41 := Or.inr ⟨3, rfl, by decide +kernel, rfl⟩
theorem dX7_turnedOf_41 : nv_dc qX7_turnedOf 41 (.invokestatic 305) 3 44 := ⟨by decide +kernel, rfl⟩
theorem dX7_turnedOf_44 : nv_dic qX7_turnedOf 44 .ge 104 47 := ⟨60, by decide +kernel, by decide, rfl⟩
theorem dX7_turnedOf_47 : nv_dk qX7_turnedOf 47 0 48 := Or.inl ⟨0, ⟨by decide +kernel, rfl⟩, by decide⟩
theorem dX7_turnedOf_48 : nv_distore qX7_turnedOf 48 5 50 := Or.inl ⟨by decide +kernel, rfl⟩
theorem dX7_turnedOf_50 : nv_diload qX7_turnedOf 50 5 52 := Or.inl ⟨by decide +kernel, rfl⟩
theorem dX7_turnedOf_52 : nv_dk qX7_turnedOf 52 9 54 := Or.inr (Or.inl ⟨9, ⟨by decide +kernel, rfl⟩, by decide⟩)
theorem dX7_turnedOf_54 : nv_dic qX7_turnedOf 54 .ge 88 57 := ⟨34, by decide +kernel, by decide, rfl⟩
theorem dX7_turnedOf_57 : nv_daload qX7_turnedOf 57 0 58 := Or.inr ⟨0, rfl, by decide +kernel, rfl⟩
theorem dX7_turnedOf_58 : nv_dc qX7_turnedOf 58 (.getfield 112) 3 61 := ⟨by decide +kernel, rfl⟩
theorem dX7_turnedOf_61 : nv_diload qX7_turnedOf 61 5 63 := Or.inl ⟨by decide +kernel, rfl⟩
theorem dX7_turnedOf_63 : nv_daload qX7_turnedOf 63 0 64 := Or.inr ⟨0, rfl, by decide +kernel, rfl⟩
theorem dX7_turnedOf_64 : nv_dc qX7_turnedOf 64 (.getfield 109) 3 67 := ⟨by decide +kernel, rfl⟩
theorem dX7_turnedOf_67 : nv_dk qX7_turnedOf 67 9 69 := Or.inr (Or.inl ⟨9, ⟨by decide +kernel, rfl⟩, by decide⟩)
theorem dX7_turnedOf_69 : nv_diload qX7_turnedOf 69 4 71 := Or.inl ⟨by decide +kernel, rfl⟩
theorem dX7_turnedOf_71 : nv_diload qX7_turnedOf 71 5 73 := Or.inl ⟨by decide +kernel, rfl⟩
theorem dX7_turnedOf_73 : nv_dc qX7_turnedOf 73 (.ishr) 1 74 := ⟨by decide +kernel, rfl⟩
theorem dX7_turnedOf_74 : nv_dk qX7_turnedOf 74 1 75 := Or.inl ⟨1, ⟨by decide +kernel, rfl⟩, by decide⟩
theorem dX7_turnedOf_75 : nv_dc qX7_turnedOf 75 (.iand) 1 76 := ⟨by decide +kernel, rfl⟩
theorem dX7_turnedOf_76 : nv_dc qX7_turnedOf 76 (.imul) 1 77 := ⟨by decide +kernel, rfl⟩
theorem dX7_turnedOf_77 : nv_diload qX7_turnedOf 77 5 79 := Or.inl ⟨by decide +kernel, rfl⟩
theorem dX7_turnedOf_79 : nv_dc qX7_turnedOf 79 (.iadd) 1 80 := ⟨by decide +kernel, rfl⟩
theorem dX7_turnedOf_80 : nv_dc qX7_turnedOf 80 (.iaload) 1 81 := ⟨by decide +kernel, rfl⟩
theorem dX7_turnedOf_81 : nv_dc qX7_turnedOf 81 (.iastore) 1 82 := ⟨by decide +kernel, rfl⟩
theorem dX7_turnedOf_82 : nv_dc qX7_turnedOf 82 (.iinc 5 1) 3 85 := ⟨by decide +kernel, rfl⟩
theorem dX7_turnedOf_85 : nv_dgo qX7_turnedOf 85 50 := ⟨(-35), by decide +kernel, by decide⟩
theorem dX7_turnedOf_88 : nv_daload qX7_turnedOf 88 0 89 := Or.inr ⟨0, rfl, by decide +kernel, rfl⟩
theorem dX7_turnedOf_89 : nv_diload qX7_turnedOf 89 1 90 := Or.inr ⟨1, rfl, by decide +kernel, rfl⟩
theorem dX7_turnedOf_90 : nv_dc qX7_turnedOf 90 (.invokevirtual 271) 3 93 := ⟨by decide +kernel, rfl⟩
theorem dX7_turnedOf_93 : nv_diload qX7_turnedOf 93 2 94 := Or.inr ⟨2, rfl, by decide +kernel, rfl⟩
theorem dX7_turnedOf_94 : nv_dic qX7_turnedOf 94 .ne 102 97 := ⟨8, by decide +kernel, by decide, rfl⟩
theorem dX7_turnedOf_97 : nv_diload qX7_turnedOf 97 4 99 := Or.inl ⟨by decide +kernel, rfl⟩
theorem dX7_turnedOf_99 : nv_dgo qX7_turnedOf 99 103 := ⟨4, by decide +kernel, by decide⟩
theorem dX7_turnedOf_102 : nv_diload qX7_turnedOf 102 3 103 := Or.inr ⟨3, rfl, by decide +kernel, rfl⟩
theorem dX7_turnedOf_103 : nv_distore qX7_turnedOf 103 3 104 := Or.inr ⟨3, rfl, by decide +kernel, rfl⟩
theorem dX7_turnedOf_104 : nv_dc qX7_turnedOf 104 (.iinc 4 1) 3 107 := ⟨by decide +kernel, rfl⟩
theorem dX7_turnedOf_107 : nv_dgo qX7_turnedOf 107 22 := ⟨(-85), by decide +kernel, by decide⟩
theorem dX7_turnedOf_110 : nv_diload qX7_turnedOf 110 3 111 := Or.inr ⟨3, rfl, by decide +kernel, rfl⟩
theorem dX7_turnedOf_111 : decode qX7_turnedOf.2.1 111 = .ok (.ireturn, 1) := by decide +kernel
def pm_turnedOf_50  (x1 : Int32) (x2 : Int32) (x3 : Int32) (x4 : Int32) (rec22 : Int32 → Int32 → nv_Hp → Option (Int32 × nv_Hp)) : Nat → Int32 → nv_Hp → Option (Int32 × nv_Hp)
  | 0, _, _ => none
  | n + 1, x5, h => (if 9 ≤ x5 then (Option.bind (pm_boundNow h x1) fun q2 => (if q2.1 = x2 then (rec22 x4 (x4 + 1) q2.2) else (rec22 x3 (x4 + 1) q2.2))) else (if nv_inb ((9 * ((x4 >>> (x5 &&& 31)) &&& 1)) + x5) 18 = true then (if nv_inb x5 9 = true then (nv_lt (nv_up h 108 x5.toNatClampNeg (h 107 ((9 * ((x4 >>> (x5 &&& 31)) &&& 1)) + x5).toNatClampNeg)) fun h6 => ((pm_turnedOf_50 x1 x2 x3 x4 rec22 n) (x5 + 1) h6)) else none) else none))
set_option maxHeartbeats 2000000 in
theorem tm_turnedOf_50 (G : nv_G)  (x1 : Int32) (hx1 : nv_inb x1 10 = true) (x2 : Int32) (x3 : Int32) (x4 : Int32) (rec22 : Int32 → Int32 → nv_Hp → Option (Int32 × nv_Hp)) (hrec22 : ∀ (x3 : Int32) (x4 : Int32) (h : nv_Hp) (o5 : Option Value) (r : Int32 × nv_Hp), rec22 x3 x4 h = some r → nv_E G 5 qX7_turnedOf 22 [some (.ref 73), some (.int x1), some (.int x2), some (.int x3), some (.int x4), o5] [] (nv_s h) (some (.int r.1), nv_s r.2)) : ∀ (n : Nat) (x5 : Int32) (h : nv_Hp) (r : Int32 × nv_Hp), pm_turnedOf_50 x1 x2 x3 x4 rec22 n x5 h = some r → nv_E G 5 qX7_turnedOf 50 [some (.ref 73), some (.int x1), some (.int x2), some (.int x3), some (.int x4), some (.int x5)] [] (nv_s h) (some (.int r.1), nv_s r.2) := by
  intro n
  induction n with
  | zero =>
    intro x5 h r hf
    rw [pm_turnedOf_50] at hf
    cases hf
  | succ n ih =>
    intro x5 h r hf
    rw [pm_turnedOf_50] at hf
    refine nv_iL dX7_turnedOf_50 rfl ?_
    refine nv_k dX7_turnedOf_52 ?_
    refine nv_icge dX7_turnedOf_54 (fun c1 => ?_) (fun c1 => ?_)
    · replace hf := nv_ip c1 hf
      refine nv_aL dX7_turnedOf_88 rfl ?_
      refine nv_iL dX7_turnedOf_89 rfl ?_
      obtain ⟨q2, hq2, hf⟩ := nv_bd hf
      refine nv_cVi (tm_boundNow G h x1 hx1 hq2) dX7_turnedOf_90 lm_X7_271 y_qX7_boundNow ko_73 rfl rfl (by decide) rfl (Nat.le_of_ble_eq_true rfl) ?_
      refine nv_iL dX7_turnedOf_93 rfl ?_
      refine nv_icne dX7_turnedOf_94 (fun c3 => ?_) (fun c3 => ?_)
      · replace hf := nv_ip c3 hf
        refine nv_iL dX7_turnedOf_97 rfl ?_
        refine nv_goto dX7_turnedOf_99 ?_
        refine nv_iS dX7_turnedOf_103 (by decide) rfl rfl ?_
        refine nv_inc dX7_turnedOf_104 rfl (v := 1) (by decide) (by decide) rfl rfl ?_
        refine nv_goto dX7_turnedOf_107 ?_
        exact hrec22 _ _ _ _ _ hf
      · replace hf := nv_in c3 hf
        refine nv_iL dX7_turnedOf_102 rfl ?_
        refine nv_iS dX7_turnedOf_103 (by decide) rfl rfl ?_
        refine nv_inc dX7_turnedOf_104 rfl (v := 1) (by decide) (by decide) rfl rfl ?_
        refine nv_goto dX7_turnedOf_107 ?_
        exact hrec22 _ _ _ _ _ hf
    · replace hf := nv_in c1 hf
      refine nv_aL dX7_turnedOf_57 rfl ?_
      refine nv_tR lf_X7_112 dX7_turnedOf_58 ko_73 rfl ?_
      refine nv_iL dX7_turnedOf_61 rfl ?_
      refine nv_aL dX7_turnedOf_63 rfl ?_
      refine nv_tR lf_X7_109 dX7_turnedOf_64 ko_73 rfl ?_
      refine nv_k dX7_turnedOf_67 ?_
      refine nv_iL dX7_turnedOf_69 rfl ?_
      refine nv_iL dX7_turnedOf_71 rfl ?_
      refine nv_ishr dX7_turnedOf_73 ?_
      refine nv_k dX7_turnedOf_74 ?_
      refine nv_iand dX7_turnedOf_75 ?_
      refine nv_imul dX7_turnedOf_76 ?_
      refine nv_iL dX7_turnedOf_77 rfl ?_
      refine nv_iadd dX7_turnedOf_79 ?_
      obtain ⟨g4, hf⟩ := nv_gd hf
      refine nv_aI dX7_turnedOf_80 ka_107 g4 rfl ?_
      obtain ⟨g5, hf⟩ := nv_gd hf
      refine nv_aP dX7_turnedOf_81 ka_108 g5 rfl ?_
      obtain ⟨h6, eh6, hf⟩ := nv_ltX hf
      rw [eh6]
      clear eh6
      refine nv_inc dX7_turnedOf_82 rfl (v := 1) (by decide) (by decide) rfl rfl ?_
      refine nv_goto dX7_turnedOf_85 ?_
      exact ih _ _ _ hf
def pm_turnedOf_22  (x1 : Int32) (x2 : Int32)  : Nat → Int32 → Int32 → nv_Hp → Option (Int32 × nv_Hp)
  | 0, _, _, _ => none
  | n + 1, x3, x4, h => (if 512 ≤ x4 then some (x3, h) else (if x3 = (-1) then (pm_turnedOf_50 x1 x2 x3 x4 (pm_turnedOf_22 x1 x2 n) nv_fu 0 h) else (Option.bind (pm_ones h x4) fun q3 => (Option.bind (pm_ones h x3) fun q4 => (if q4 ≤ q3 then ((pm_turnedOf_22 x1 x2 n) x3 (x4 + 1) h) else (pm_turnedOf_50 x1 x2 x3 x4 (pm_turnedOf_22 x1 x2 n) nv_fu 0 h))))))
set_option maxHeartbeats 2000000 in
theorem tm_turnedOf_22 (G : nv_G)  (x1 : Int32) (hx1 : nv_inb x1 10 = true) (x2 : Int32)  : ∀ (n : Nat) (x3 : Int32) (x4 : Int32) (h : nv_Hp) (o5 : Option Value) (r : Int32 × nv_Hp), pm_turnedOf_22 x1 x2 n x3 x4 h = some r → nv_E G 5 qX7_turnedOf 22 [some (.ref 73), some (.int x1), some (.int x2), some (.int x3), some (.int x4), o5] [] (nv_s h) (some (.int r.1), nv_s r.2) := by
  intro n
  induction n with
  | zero =>
    intro x3 x4 h o5 r hf
    rw [pm_turnedOf_22] at hf
    cases hf
  | succ n ih =>
    intro x3 x4 h o5 r hf
    rw [pm_turnedOf_22] at hf
    refine nv_iL dX7_turnedOf_22 rfl ?_
    refine nv_k dX7_turnedOf_24 ?_
    refine nv_icge dX7_turnedOf_27 (fun c1 => ?_) (fun c1 => ?_)
    · replace hf := nv_ip c1 hf
      refine nv_iL dX7_turnedOf_110 rfl ?_
      obtain rfl := Option.some.inj hf
      exact nv_ireturnI dX7_turnedOf_111 rfl
    · replace hf := nv_in c1 hf
      refine nv_iL dX7_turnedOf_30 rfl ?_
      refine nv_k dX7_turnedOf_31 ?_
      refine nv_iceq dX7_turnedOf_32 (fun c2 => ?_) (fun c2 => ?_)
      · replace hf := nv_ip c2 hf
        refine nv_k dX7_turnedOf_47 ?_
        refine nv_iS dX7_turnedOf_48 (by decide) rfl rfl ?_
        exact tm_turnedOf_50 G _ hx1 _ _ _ _ ih _ _ _ _ hf
      · replace hf := nv_in c2 hf
        refine nv_iL dX7_turnedOf_35 rfl ?_
        obtain ⟨q3, hq3, hf⟩ := nv_bd hf
        refine nv_cSi (tm_ones G h x4 hq3) dX7_turnedOf_37 lm_X7_305 y_qX7_ones rfl (by decide) rfl (Nat.le_of_ble_eq_true rfl) ?_
        refine nv_iL dX7_turnedOf_40 rfl ?_
        obtain ⟨q4, hq4, hf⟩ := nv_bd hf
        refine nv_cSi (tm_ones G h x3 hq4) dX7_turnedOf_41 lm_X7_305 y_qX7_ones rfl (by decide) rfl (Nat.le_of_ble_eq_true rfl) ?_
        refine nv_icge dX7_turnedOf_44 (fun c5 => ?_) (fun c5 => ?_)
        · replace hf := nv_ip c5 hf
          refine nv_inc dX7_turnedOf_104 rfl (v := 1) (by decide) (by decide) rfl rfl ?_
          refine nv_goto dX7_turnedOf_107 ?_
          exact ih _ _ _ _ _ hf
        · replace hf := nv_in c5 hf
          refine nv_k dX7_turnedOf_47 ?_
          refine nv_iS dX7_turnedOf_48 (by decide) rfl rfl ?_
          exact tm_turnedOf_50 G _ hx1 _ _ _ _ ih _ _ _ _ hf
def pm_turnedOf (h : nv_Hp) (x1 : Int32) : Option (Int32 × nv_Hp) := (Option.bind (pm_reads h 0) fun q1 => (Option.bind (pm_goes q1.2 1) fun q2 => (Option.bind (pm_boundNow q2 x1) fun q3 => (pm_turnedOf_22 x1 q3.1 nv_fu (-1) 0 q3.2))))
set_option maxHeartbeats 2000000 in
theorem tm_turnedOf (G : nv_G) (h : nv_Hp) (x1 : Int32) (hx1 : nv_inb x1 10 = true) {r : Int32 × nv_Hp} (hf : (pm_turnedOf h x1) = some r) : nv_Mt G 5 qX7_turnedOf [.ref 73, .int x1] (nv_s h) (some (.int r.1), nv_s r.2) := by
  refine nv_of (by decide +kernel) (fun ad => Nat.le_of_ble_eq_true rfl) (Nat.le_refl _) (Nat.le_of_ble_eq_true rfl) ?_
  show nv_E G 5 qX7_turnedOf 0 [some (.ref 73), some (.int x1), none, none, none, none] [] (nv_s h) (some (.int r.1), nv_s r.2)
  unfold pm_turnedOf at hf
  refine nv_aL dX7_turnedOf_0 rfl ?_
  refine nv_k dX7_turnedOf_1 ?_
  obtain ⟨q1, hq1, hf⟩ := nv_bd hf
  refine nv_cVi (tm_reads G h 0 (by decide) hq1) dX7_turnedOf_2 lm_X7_238 y_qX7_reads ko_73 rfl rfl (by decide) rfl (Nat.le_of_ble_eq_true rfl) ?_
  refine nv_pop dX7_turnedOf_5 rfl ?_
  refine nv_aL dX7_turnedOf_6 rfl ?_
  refine nv_k dX7_turnedOf_7 ?_
  obtain ⟨q2, hq2, hf⟩ := nv_bd hf
  refine nv_cVv (tm_goes G q1.2 1 (by decide) hq2) dX7_turnedOf_8 lm_X7_268 y_qX7_goes ko_73 rfl rfl (by decide) rfl (Nat.le_of_ble_eq_true rfl) ?_
  refine nv_aL dX7_turnedOf_11 rfl ?_
  refine nv_iL dX7_turnedOf_12 rfl ?_
  obtain ⟨q3, hq3, hf⟩ := nv_bd hf
  refine nv_cVi (tm_boundNow G q2 x1 hx1 hq3) dX7_turnedOf_13 lm_X7_271 y_qX7_boundNow ko_73 rfl rfl (by decide) rfl (Nat.le_of_ble_eq_true rfl) ?_
  refine nv_iS dX7_turnedOf_16 (by decide) rfl rfl ?_
  refine nv_k dX7_turnedOf_17 ?_
  refine nv_iS dX7_turnedOf_18 (by decide) rfl rfl ?_
  refine nv_k dX7_turnedOf_19 ?_
  refine nv_iS dX7_turnedOf_20 (by decide) rfl rfl ?_
  exact tm_turnedOf_22 G _ hx1 _ _ _ _ _ _ _ hf
/-! WhoseNameModel.turned -/
theorem dX7_turned_0 : nv_daload qX7_turned 0 0 1 := Or.inr ⟨0, rfl, by decide +kernel, rfl⟩
theorem dX7_turned_1 : nv_diload qX7_turned 1 1 2 := Or.inr ⟨1, rfl, by decide +kernel, rfl⟩
theorem dX7_turned_2 : nv_dc qX7_turned 2 (.invokevirtual 204) 3 5 := ⟨by decide +kernel, rfl⟩
theorem dX7_turned_5 : nv_dif qX7_turned 5 .eq 16 8 := ⟨11, by decide +kernel, by decide, rfl⟩
theorem dX7_turned_8 : nv_daload qX7_turned 8 0 9 := Or.inr ⟨0, rfl, by decide +kernel, rfl⟩
theorem dX7_turned_9 : nv_diload qX7_turned 9 1 10 := Or.inr ⟨1, rfl, by decide +kernel, rfl⟩
theorem dX7_turned_10 : nv_dc qX7_turned 10 (.invokevirtual 311) 3 13 := ⟨by decide +kernel, rfl⟩
theorem dX7_turned_13 : nv_dgo qX7_turned 13 18 := ⟨5, by decide +kernel, by decide⟩
theorem dX7_turned_16 : nv_dk qX7_turned 16 (-2) 18 := Or.inr (Or.inl ⟨(-2), ⟨by decide +kernel, rfl⟩, by decide⟩)
theorem dX7_turned_18 : decode qX7_turned.2.1 18 = .ok (.ireturn, 1) := by decide +kernel
def pm_turned (h : nv_Hp) (x1 : Int32) : Option (Int32 × nv_Hp) := (if (pm_isBargain h x1) = true then (if nv_inb x1 10 = true then (Option.bind (pm_turnedOf h x1) fun q3 => some (q3.1, q3.2)) else none) else some ((-2), h))
set_option maxHeartbeats 2000000 in
theorem tm_turned (G : nv_G) (h : nv_Hp) (x1 : Int32) {r : Int32 × nv_Hp} (hf : (pm_turned h x1) = some r) : nv_Mt G 6 qX7_turned [.ref 73, .int x1] (nv_s h) (some (.int r.1), nv_s r.2) := by
  refine nv_of (by decide +kernel) (fun ad => Nat.le_of_ble_eq_true rfl) (Nat.le_refl _) (Nat.le_of_ble_eq_true rfl) ?_
  show nv_E G 6 qX7_turned 0 [some (.ref 73), some (.int x1)] [] (nv_s h) (some (.int r.1), nv_s r.2)
  unfold pm_turned at hf
  refine nv_aL dX7_turned_0 rfl ?_
  refine nv_iL dX7_turned_1 rfl ?_
  refine nv_cVi (tm_isBargain G h x1) dX7_turned_2 lm_X7_204 y_qX7_isBargain ko_73 rfl rfl (by decide) rfl (Nat.le_of_ble_eq_true rfl) ?_
  refine nv_ifeqB dX7_turned_5 (fun c1 => ?_) (fun c1 => ?_)
  · replace hf := nv_ip c1 hf
    refine nv_aL dX7_turned_8 rfl ?_
    refine nv_iL dX7_turned_9 rfl ?_
    obtain ⟨g2, hf⟩ := nv_gd hf
    obtain ⟨q3, hq3, hf⟩ := nv_bd hf
    refine nv_cVi (tm_turnedOf G h x1 g2 hq3) dX7_turned_10 lm_X7_311 y_qX7_turnedOf ko_73 rfl rfl (by decide) rfl (Nat.le_of_ble_eq_true rfl) ?_
    refine nv_goto dX7_turned_13 ?_
    obtain rfl := Option.some.inj hf
    exact nv_ireturnI dX7_turned_18 rfl
  · replace hf := nv_in c1 hf
    refine nv_k dX7_turned_16 ?_
    obtain rfl := Option.some.inj hf
    exact nv_ireturnI dX7_turned_18 rfl
/-! WhoseNameModel.isJust -/
theorem dX7_isJust_0 : nv_daload qX7_isJust 0 0 1 := Or.inr ⟨0, rfl, by decide +kernel, rfl⟩
theorem dX7_isJust_1 : nv_diload qX7_isJust 1 1 2 := Or.inr ⟨1, rfl, by decide +kernel, rfl⟩
theorem dX7_isJust_2 : nv_dc qX7_isJust 2 (.invokevirtual 268) 3 5 := ⟨by decide +kernel, rfl⟩
theorem dX7_isJust_5 : nv_dk qX7_isJust 5 1 6 := Or.inl ⟨1, ⟨by decide +kernel, rfl⟩, by decide⟩
theorem dX7_isJust_6 : nv_distore qX7_isJust 6 5 8 := Or.inl ⟨by decide +kernel, rfl⟩
theorem dX7_isJust_8 : nv_dk qX7_isJust 8 0 9 := Or.inl ⟨0, ⟨by decide +kernel, rfl⟩, by decide⟩
theorem dX7_isJust_9 : nv_distore qX7_isJust 9 6 11 := Or.inl ⟨by decide +kernel, rfl⟩
theorem dX7_isJust_11 : nv_diload qX7_isJust 11 6 13 := Or.inl ⟨by decide +kernel, rfl⟩
theorem dX7_isJust_13 : nv_daload qX7_isJust 13 0 14 := Or.inr ⟨0, rfl, by decide +kernel, rfl⟩
theorem dX7_isJust_14 : nv_dc qX7_isJust 14 (.getfield 197) 3 17 := ⟨by decide +kernel, rfl⟩
theorem dX7_isJust_17 : nv_dic qX7_isJust 17 .ge 80 20 := ⟨63, by decide +kernel, by decide, rfl⟩
theorem dX7_isJust_20 : nv_diload qX7_isJust 20 5 22 := Or.inl ⟨by decide +kernel, rfl⟩
theorem dX7_isJust_22 : nv_dif qX7_isJust 22 .eq 80 25 := ⟨58, by decide +kernel, by decide, rfl⟩
theorem dX7_isJust_25 : nv_daload qX7_isJust 25 0 26 := Or.inr ⟨0, rfl, by decide +kernel, rfl⟩
theorem dX7_isJust_26 : nv_dc qX7_isJust 26 (.getfield 70) 3 29 := ⟨by decide +kernel, rfl⟩
theorem dX7_isJust_29 : nv_diload qX7_isJust 29 6 31 := Or.inl ⟨by decide +kernel, rfl⟩
theorem dX7_isJust_31 : nv_dc qX7_isJust 31 (.iaload) 1 32 := ⟨by decide +kernel, rfl⟩
theorem dX7_isJust_32 : nv_diload qX7_isJust 32 3 33 := Or.inr ⟨3, rfl, by decide +kernel, rfl⟩
theorem dX7_isJust_33 : nv_dic qX7_isJust 33 .ne 74 36 := ⟨41, by decide +kernel, by decide, rfl⟩
theorem dX7_isJust_36 : nv_daload qX7_isJust 36 0 37 := Or.inr ⟨0, rfl, by decide +kernel, rfl⟩
theorem dX7_isJust_37 : nv_dc qX7_isJust 37 (.getfield 73) 3 40 := ⟨by decide +kernel, rfl⟩
theorem dX7_isJust_40 : nv_diload qX7_isJust 40 6 42 := Or.inl ⟨by decide +kernel, rfl⟩
theorem dX7_isJust_42 : nv_dc qX7_isJust 42 (.iaload) 1 43 := ⟨by decide +kernel, rfl⟩
theorem dX7_isJust_43 : nv_diload qX7_isJust 43 2 44 := Or.inr ⟨2, rfl, by decide +kernel, rfl⟩
theorem dX7_isJust_44 : nv_dic qX7_isJust 44 .ne 74 47 := ⟨30, by decide +kernel, by decide, rfl⟩
theorem dX7_isJust_47 : nv_daload qX7_isJust 47 0 48 := Or.inr ⟨0, rfl, by decide +kernel, rfl⟩
theorem dX7_isJust_48 : nv_diload qX7_isJust 48 6 50 := Or.inl ⟨by decide +kernel, rfl⟩
theorem dX7_isJust_50 : nv_dc qX7_isJust 50 (.invokevirtual 271) 3 53 := ⟨by decide +kernel, rfl⟩
theorem dX7_isJust_53 : nv_diload qX7_isJust 53 2 54 := Or.inr ⟨2, rfl, by decide +kernel, rfl⟩
theorem dX7_isJust_54 : nv_dc qX7_isJust 54 (.ishr) 1 55 := ⟨by decide +kernel, rfl⟩
theorem dX7_isJust_55 : nv_dk qX7_isJust 55 1 56 := Or.inl ⟨1, ⟨by decide +kernel, rfl⟩, by decide⟩
theorem dX7_isJust_56 : nv_dc qX7_isJust 56 (.iand) 1 57 := ⟨by decide +kernel, rfl⟩
theorem dX7_isJust_57 : nv_diload qX7_isJust 57 4 59 := Or.inl ⟨by decide +kernel, rfl⟩
theorem dX7_isJust_59 : nv_diload qX7_isJust 59 6 61 := Or.inl ⟨by decide +kernel, rfl⟩
theorem dX7_isJust_61 : nv_dc qX7_isJust 61 (.ishr) 1 62 := ⟨by decide +kernel, rfl⟩
theorem dX7_isJust_62 : nv_dk qX7_isJust 62 1 63 := Or.inl ⟨1, ⟨by decide +kernel, rfl⟩, by decide⟩
theorem dX7_isJust_63 : nv_dc qX7_isJust 63 (.iand) 1 64 := ⟨by decide +kernel, rfl⟩
theorem dX7_isJust_64 : nv_dic qX7_isJust 64 .ne 71 67 := ⟨7, by decide +kernel, by decide, rfl⟩
theorem dX7_isJust_67 : nv_dk qX7_isJust 67 1 68 := Or.inl ⟨1, ⟨by decide +kernel, rfl⟩, by decide⟩
theorem dX7_isJust_68 : nv_dgo qX7_isJust 68 72 := ⟨4, by decide +kernel, by decide⟩
theorem dX7_isJust_71 : nv_dk qX7_isJust 71 0 72 := Or.inl ⟨0, ⟨by decide +kernel, rfl⟩, by decide⟩
theorem dX7_isJust_72 : nv_distore qX7_isJust 72 5 74 := Or.inl ⟨by decide +kernel, rfl⟩
theorem dX7_isJust_74 : nv_dc qX7_isJust 74 (.iinc 6 1) 3 77 := ⟨by decide +kernel, rfl⟩
theorem dX7_isJust_77 : nv_dgo qX7_isJust 77 11 := ⟨(-66), by decide +kernel, by decide⟩
theorem dX7_isJust_80 : nv_diload qX7_isJust 80 5 82 := Or.inl ⟨by decide +kernel, rfl⟩
theorem dX7_isJust_82 : decode qX7_isJust.2.1 82 = .ok (.ireturn, 1) := by decide +kernel
def pm_isJust_11  (x2 : Int32) (x3 : Int32) (x4 : Int32)  : Nat → Bool → Int32 → nv_Hp → Option (Bool × nv_Hp)
  | 0, _, _, _ => none
  | n + 1, x5, x6, h => (if (h 73 23) ≤ x6 then some (x5, h) else (if x5 = true then (if nv_inb x6 10 = true then (Option.bind ((if (h 94 x6.toNatClampNeg) = x3 then (if (h 95 x6.toNatClampNeg) = x2 then (Option.bind (pm_boundNow h x6) fun q4 => (if ((q4.1 >>> (x2 &&& 31)) &&& 1) = ((x4 >>> (x6 &&& 31)) &&& 1) then some (true, q4.2) else some (false, q4.2))) else some (x5, h)) else some (x5, h)) : Option (Bool × nv_Hp)) fun u5 => (pm_isJust_11 x2 x3 x4 n) u5.1 (x6 + 1) u5.2) else none) else some (x5, h)))
set_option maxHeartbeats 2000000 in
theorem tm_isJust_11 (G : nv_G)  (x2 : Int32) (x3 : Int32) (x4 : Int32)  : ∀ (n : Nat) (x5 : Bool) (x6 : Int32) (h : nv_Hp) (o1 : Option Value) (r : Bool × nv_Hp), pm_isJust_11 x2 x3 x4 n x5 x6 h = some r → nv_E G 5 qX7_isJust 11 [some (.ref 73), o1, some (.int x2), some (.int x3), some (.int x4), some (.int (nv_bi x5)), some (.int x6)] [] (nv_s h) (some (.int (nv_bi r.1)), nv_s r.2) := by
  intro n
  induction n with
  | zero =>
    intro x5 x6 h o1 r hf
    rw [pm_isJust_11] at hf
    cases hf
  | succ n ih =>
    intro x5 x6 h o1 r hf
    rw [pm_isJust_11] at hf
    refine nv_iL dX7_isJust_11 rfl ?_
    refine nv_aL dX7_isJust_13 rfl ?_
    refine nv_tI lf_X7_197 dX7_isJust_14 ko_73 rfl ?_
    refine nv_icge dX7_isJust_17 (fun c1 => ?_) (fun c1 => ?_)
    · replace hf := nv_ip c1 hf
      refine nv_iL dX7_isJust_80 rfl ?_
      obtain rfl := Option.some.inj hf
      exact nv_ireturnB (b := x5) dX7_isJust_82 rfl
    · replace hf := nv_in c1 hf
      refine nv_iL dX7_isJust_20 rfl ?_
      refine nv_ifeqB dX7_isJust_22 (fun c2 => ?_) (fun c2 => ?_)
      · replace hf := nv_ip c2 hf
        refine nv_aL dX7_isJust_25 rfl ?_
        refine nv_tR lf_X7_70 dX7_isJust_26 ko_73 rfl ?_
        refine nv_iL dX7_isJust_29 rfl ?_
        obtain ⟨g3, hf⟩ := nv_gd hf
        refine nv_aI dX7_isJust_31 ka_94 g3 rfl ?_
        refine nv_iL dX7_isJust_32 rfl ?_
        refine nv_icne dX7_isJust_33 (fun c6 => ?_) (fun c6 => ?_)
        · try simp only [if_pos c6, Option.bind_some] at hf
          refine nv_aL dX7_isJust_36 rfl ?_
          refine nv_tR lf_X7_73 dX7_isJust_37 ko_73 rfl ?_
          refine nv_iL dX7_isJust_40 rfl ?_
          refine nv_aI dX7_isJust_42 ka_95 g3 rfl ?_
          refine nv_iL dX7_isJust_43 rfl ?_
          refine nv_icne dX7_isJust_44 (fun c7 => ?_) (fun c7 => ?_)
          · try simp only [if_pos c7, Option.bind_some] at hf
            refine nv_aL dX7_isJust_47 rfl ?_
            refine nv_iL dX7_isJust_48 rfl ?_
            obtain ⟨q8, hq8⟩ : ∃ q, pm_boundNow h x6 = some q := by
              cases hq8 : pm_boundNow h x6 with
              | none => exfalso; simp [hq8] at hf
              | some q => exact ⟨q, rfl⟩
            simp only [hq8, Option.bind_some] at hf
            refine nv_cVi (tm_boundNow G h x6 g3 hq8) dX7_isJust_50 lm_X7_271 y_qX7_boundNow ko_73 rfl rfl (by decide) rfl (Nat.le_of_ble_eq_true rfl) ?_
            refine nv_iL dX7_isJust_53 rfl ?_
            refine nv_ishr dX7_isJust_54 ?_
            refine nv_k dX7_isJust_55 ?_
            refine nv_iand dX7_isJust_56 ?_
            refine nv_iL dX7_isJust_57 rfl ?_
            refine nv_iL dX7_isJust_59 rfl ?_
            refine nv_ishr dX7_isJust_61 ?_
            refine nv_k dX7_isJust_62 ?_
            refine nv_iand dX7_isJust_63 ?_
            refine nv_icne dX7_isJust_64 (fun c9 => ?_) (fun c9 => ?_)
            · try simp only [if_pos c9, Option.bind_some] at hf
              refine nv_k dX7_isJust_67 ?_
              refine nv_goto dX7_isJust_68 ?_
              refine nv_iS dX7_isJust_72 (by decide) rfl rfl ?_
              refine nv_inc dX7_isJust_74 rfl (v := 1) (by decide) (by decide) rfl rfl ?_
              refine nv_goto dX7_isJust_77 ?_
              exact ih _ _ _ _ _ hf
            · try simp only [if_neg c9, Option.bind_some] at hf
              refine nv_k dX7_isJust_71 ?_
              refine nv_iS dX7_isJust_72 (by decide) rfl rfl ?_
              refine nv_inc dX7_isJust_74 rfl (v := 1) (by decide) (by decide) rfl rfl ?_
              refine nv_goto dX7_isJust_77 ?_
              exact ih _ _ _ _ _ hf
          · try simp only [if_neg c7, Option.bind_some] at hf
            refine nv_inc dX7_isJust_74 rfl (v := 1) (by decide) (by decide) rfl rfl ?_
            refine nv_goto dX7_isJust_77 ?_
            exact ih _ _ _ _ _ hf
        · try simp only [if_neg c6, Option.bind_some] at hf
          refine nv_inc dX7_isJust_74 rfl (v := 1) (by decide) (by decide) rfl rfl ?_
          refine nv_goto dX7_isJust_77 ?_
          exact ih _ _ _ _ _ hf
      · replace hf := nv_in c2 hf
        refine nv_iL dX7_isJust_80 rfl ?_
        obtain rfl := Option.some.inj hf
        exact nv_ireturnB (b := x5) dX7_isJust_82 rfl
def pm_isJust (h : nv_Hp) (x1 : Int32) (x2 : Int32) (x3 : Int32) (x4 : Int32) : Option (Bool × nv_Hp) := (Option.bind (pm_goes h x1) fun q1 => (pm_isJust_11 x2 x3 x4 nv_fu true 0 q1))
set_option maxHeartbeats 2000000 in
theorem tm_isJust (G : nv_G) (h : nv_Hp) (x1 : Int32) (hx1 : nv_inb x1 2 = true) (x2 : Int32) (x3 : Int32) (x4 : Int32) {r : Bool × nv_Hp} (hf : (pm_isJust h x1 x2 x3 x4) = some r) : nv_Mt G 5 qX7_isJust [.ref 73, .int x1, .int x2, .int x3, .int x4] (nv_s h) (some (.int (nv_bi r.1)), nv_s r.2) := by
  refine nv_of (by decide +kernel) (fun ad => Nat.le_of_ble_eq_true rfl) (Nat.le_refl _) (Nat.le_of_ble_eq_true rfl) ?_
  show nv_E G 5 qX7_isJust 0 [some (.ref 73), some (.int x1), some (.int x2), some (.int x3), some (.int x4), none, none] [] (nv_s h) (some (.int (nv_bi r.1)), nv_s r.2)
  unfold pm_isJust at hf
  refine nv_aL dX7_isJust_0 rfl ?_
  refine nv_iL dX7_isJust_1 rfl ?_
  obtain ⟨q1, hq1, hf⟩ := nv_bd hf
  refine nv_cVv (tm_goes G h x1 hx1 hq1) dX7_isJust_2 lm_X7_268 y_qX7_goes ko_73 rfl rfl (by decide) rfl (Nat.le_of_ble_eq_true rfl) ?_
  refine nv_k dX7_isJust_5 ?_
  refine nv_iS dX7_isJust_6 (by decide) rfl rfl ?_
  refine nv_k dX7_isJust_8 ?_
  refine nv_iS dX7_isJust_9 (by decide) rfl rfl ?_
  exact tm_isJust_11 G _ _ _ _ _ _ _ _ _ hf
/-! WhoseNameModel.isOfBoth -/
theorem dX7_isOfBoth_0 : nv_diload qX7_isOfBoth 0 3 1 := Or.inr ⟨3, rfl, by decide +kernel, rfl⟩
theorem dX7_isOfBoth_1 : nv_dc qX7_isOfBoth 1 (.i2l) 1 2 := ⟨by decide +kernel, rfl⟩
theorem dX7_isOfBoth_2 : nv_dc qX7_isOfBoth 2 (.lconst 0) 1 3 := ⟨by decide +kernel, rfl⟩
theorem dX7_isOfBoth_3 : nv_dk qX7_isOfBoth 3 1 4 := Or.inl ⟨1, ⟨by decide +kernel, rfl⟩, by decide⟩
theorem dX7_isOfBoth_4 : nv_daload qX7_isOfBoth 4 0 5 := Or.inr ⟨0, rfl, by decide +kernel, rfl⟩
theorem dX7_isOfBoth_5 : nv_dc qX7_isOfBoth 5 (.getfield 197) 3 8 := ⟨by decide +kernel, rfl⟩
theorem dX7_isOfBoth_8 : nv_dc qX7_isOfBoth 8 (.ishl) 1 9 := ⟨by decide +kernel, rfl⟩
theorem dX7_isOfBoth_9 : nv_dk qX7_isOfBoth 9 1 10 := Or.inl ⟨1, ⟨by decide +kernel, rfl⟩, by decide⟩
theorem dX7_isOfBoth_10 : nv_dc qX7_isOfBoth 10 (.isub) 1 11 := ⟨by decide +kernel, rfl⟩
theorem dX7_isOfBoth_11 : nv_dc qX7_isOfBoth 11 (.i2l) 1 12 := ⟨by decide +kernel, rfl⟩
theorem dX7_isOfBoth_12 : nv_dc qX7_isOfBoth 12 (.invokestatic 127) 3 15 := ⟨by decide +kernel, rfl⟩
theorem dX7_isOfBoth_15 : nv_distore qX7_isOfBoth 15 4 17 := Or.inl ⟨by decide +kernel, rfl⟩
theorem dX7_isOfBoth_17 : nv_dk qX7_isOfBoth 17 0 18 := Or.inl ⟨0, ⟨by decide +kernel, rfl⟩, by decide⟩
theorem dX7_isOfBoth_18 : nv_distore qX7_isOfBoth 18 5 20 := Or.inl ⟨by decide +kernel, rfl⟩
theorem dX7_isOfBoth_20 : nv_diload qX7_isOfBoth 20 5 22 := Or.inl ⟨by decide +kernel, rfl⟩
theorem dX7_isOfBoth_22 : nv_daload qX7_isOfBoth 22 0 23 := Or.inr ⟨0, rfl, by decide +kernel, rfl⟩
theorem dX7_isOfBoth_23 : nv_dc qX7_isOfBoth 23 (.getfield 197) 3 26 := ⟨by decide +kernel, rfl⟩
theorem dX7_isOfBoth_26 : nv_dic qX7_isOfBoth 26 .ge 78 29 := ⟨52, by decide +kernel, by decide, rfl⟩
theorem dX7_isOfBoth_29 : nv_diload qX7_isOfBoth 29 4 31 := Or.inl ⟨by decide +kernel, rfl⟩
theorem dX7_isOfBoth_31 : nv_dif qX7_isOfBoth 31 .eq 78 34 := ⟨47, by decide +kernel, by decide, rfl⟩
theorem dX7_isOfBoth_34 : nv_diload qX7_isOfBoth 34 3 35 := Or.inr ⟨3, rfl, by decide +kernel, rfl⟩
theorem dX7_isOfBoth_35 : nv_diload qX7_isOfBoth 35 5 37 := Or.inl ⟨by decide +kernel, rfl⟩
theorem dX7_isOfBoth_37 : nv_dc qX7_isOfBoth 37 (.ishr) 1 38 := ⟨by decide +kernel, rfl⟩
theorem dX7_isOfBoth_38 : nv_dk qX7_isOfBoth 38 1 39 := Or.inl ⟨1, ⟨by decide +kernel, rfl⟩, by decide⟩
theorem dX7_isOfBoth_39 : nv_dc qX7_isOfBoth 39 (.iand) 1 40 := ⟨by decide +kernel, rfl⟩
theorem dX7_isOfBoth_40 : nv_dif qX7_isOfBoth 40 .eq 65 43 := ⟨25, by decide +kernel, by decide, rfl⟩
theorem dX7_isOfBoth_43 : nv_daload qX7_isOfBoth 43 0 44 := Or.inr ⟨0, rfl, by decide +kernel, rfl⟩
theorem dX7_isOfBoth_44 : nv_dc qX7_isOfBoth 44 (.getfield 70) 3 47 := ⟨by decide +kernel, rfl⟩
theorem dX7_isOfBoth_47 : nv_diload qX7_isOfBoth 47 5 49 := Or.inl ⟨by decide +kernel, rfl⟩
theorem dX7_isOfBoth_49 : nv_dc qX7_isOfBoth 49 (.iaload) 1 50 := ⟨by decide +kernel, rfl⟩
theorem dX7_isOfBoth_50 : nv_diload qX7_isOfBoth 50 2 51 := Or.inr ⟨2, rfl, by decide +kernel, rfl⟩
theorem dX7_isOfBoth_51 : nv_dic qX7_isOfBoth 51 .ne 69 54 := ⟨18, by decide +kernel, by decide, rfl⟩
theorem dX7_isOfBoth_54 : nv_daload qX7_isOfBoth 54 0 55 := Or.inr ⟨0, rfl, by decide +kernel, rfl⟩
theorem dX7_isOfBoth_55 : nv_dc qX7_isOfBoth 55 (.getfield 73) 3 58 := ⟨by decide +kernel, rfl⟩
theorem dX7_isOfBoth_58 : nv_diload qX7_isOfBoth 58 5 60 := Or.inl ⟨by decide +kernel, rfl⟩
theorem dX7_isOfBoth_60 : nv_dc qX7_isOfBoth 60 (.iaload) 1 61 := ⟨by decide +kernel, rfl⟩
theorem dX7_isOfBoth_61 : nv_diload qX7_isOfBoth 61 1 62 := Or.inr ⟨1, rfl, by decide +kernel, rfl⟩
theorem dX7_isOfBoth_62 : nv_dic qX7_isOfBoth 62 .ne 69 65 := ⟨7, by decide +kernel, by decide, rfl⟩
theorem dX7_isOfBoth_65 : nv_dk qX7_isOfBoth 65 1 66 := Or.inl ⟨1, ⟨by decide +kernel, rfl⟩, by decide⟩
theorem dX7_isOfBoth_66 : nv_dgo qX7_isOfBoth 66 70 := ⟨4, by decide +kernel, by decide⟩
theorem dX7_isOfBoth_69 : nv_dk qX7_isOfBoth 69 0 70 := Or.inl ⟨0, ⟨by decide +kernel, rfl⟩, by decide⟩
theorem dX7_isOfBoth_70 : nv_distore qX7_isOfBoth 70 4 72 := Or.inl ⟨by decide +kernel, rfl⟩
theorem dX7_isOfBoth_72 : nv_dc qX7_isOfBoth 72 (.iinc 5 1) 3 75 := ⟨by decide +kernel, rfl⟩
theorem dX7_isOfBoth_75 : nv_dgo qX7_isOfBoth 75 20 := ⟨(-55), by decide +kernel, by decide⟩
theorem dX7_isOfBoth_78 : nv_diload qX7_isOfBoth 78 4 80 := Or.inl ⟨by decide +kernel, rfl⟩
theorem dX7_isOfBoth_80 : decode qX7_isOfBoth.2.1 80 = .ok (.ireturn, 1) := by decide +kernel
def pm_isOfBoth_20 (h : nv_Hp) (x1 : Int32) (x2 : Int32) (x3 : Int32)  : Nat → Bool → Int32 → Option (Bool)
  | 0, _, _ => none
  | n + 1, x4, x5 => (if (h 73 23) ≤ x5 then some x4 else (if x4 = true then (Option.bind ((if ((x3 >>> (x5 &&& 31)) &&& 1) = 0 then some (true) else (if nv_inb x5 10 = true then (if (h 94 x5.toNatClampNeg) = x2 then (if (h 95 x5.toNatClampNeg) = x1 then some (true) else some (false)) else some (false)) else none)) : Option (Bool)) fun u4 => (pm_isOfBoth_20 h x1 x2 x3 n) u4 (x5 + 1)) else some x4))
set_option maxHeartbeats 2000000 in
theorem tm_isOfBoth_20 (G : nv_G) (h : nv_Hp) (x1 : Int32) (x2 : Int32) (x3 : Int32)  : ∀ (n : Nat) (x4 : Bool) (x5 : Int32) (r : Bool), pm_isOfBoth_20 h x1 x2 x3 n x4 x5 = some r → nv_E G 1 qX7_isOfBoth 20 [some (.ref 73), some (.int x1), some (.int x2), some (.int x3), some (.int (nv_bi x4)), some (.int x5)] [] (nv_s h) (some (.int (nv_bi r)), nv_s h) := by
  intro n
  induction n with
  | zero =>
    intro x4 x5 r hf
    rw [pm_isOfBoth_20] at hf
    cases hf
  | succ n ih =>
    intro x4 x5 r hf
    rw [pm_isOfBoth_20] at hf
    refine nv_iL dX7_isOfBoth_20 rfl ?_
    refine nv_aL dX7_isOfBoth_22 rfl ?_
    refine nv_tI lf_X7_197 dX7_isOfBoth_23 ko_73 rfl ?_
    refine nv_icge dX7_isOfBoth_26 (fun c1 => ?_) (fun c1 => ?_)
    · replace hf := nv_ip c1 hf
      refine nv_iL dX7_isOfBoth_78 rfl ?_
      obtain rfl := Option.some.inj hf
      exact nv_ireturnB (b := x4) dX7_isOfBoth_80 rfl
    · replace hf := nv_in c1 hf
      refine nv_iL dX7_isOfBoth_29 rfl ?_
      refine nv_ifeqB dX7_isOfBoth_31 (fun c2 => ?_) (fun c2 => ?_)
      · replace hf := nv_ip c2 hf
        refine nv_iL dX7_isOfBoth_34 rfl ?_
        refine nv_iL dX7_isOfBoth_35 rfl ?_
        refine nv_ishr dX7_isOfBoth_37 ?_
        refine nv_k dX7_isOfBoth_38 ?_
        refine nv_iand dX7_isOfBoth_39 ?_
        refine nv_ifeq dX7_isOfBoth_40 (fun c5 => ?_) (fun c5 => ?_)
        · try simp only [if_pos c5, Option.bind_some] at hf
          refine nv_k dX7_isOfBoth_65 ?_
          refine nv_goto dX7_isOfBoth_66 ?_
          refine nv_iS dX7_isOfBoth_70 (by decide) rfl rfl ?_
          refine nv_inc dX7_isOfBoth_72 rfl (v := 1) (by decide) (by decide) rfl rfl ?_
          refine nv_goto dX7_isOfBoth_75 ?_
          exact ih _ _ _ hf
        · try simp only [if_neg c5, Option.bind_some] at hf
          refine nv_aL dX7_isOfBoth_43 rfl ?_
          refine nv_tR lf_X7_70 dX7_isOfBoth_44 ko_73 rfl ?_
          refine nv_iL dX7_isOfBoth_47 rfl ?_
          have g6 : nv_inb x5 10 = true := by
            by_cases g6 : nv_inb x5 10 = true
            · exact g6
            · exfalso; simp [if_neg g6] at hf
          simp only [if_pos g6, Option.bind_some] at hf
          refine nv_aI dX7_isOfBoth_49 ka_94 g6 rfl ?_
          refine nv_iL dX7_isOfBoth_50 rfl ?_
          refine nv_icne dX7_isOfBoth_51 (fun c7 => ?_) (fun c7 => ?_)
          · try simp only [if_pos c7, Option.bind_some] at hf
            refine nv_aL dX7_isOfBoth_54 rfl ?_
            refine nv_tR lf_X7_73 dX7_isOfBoth_55 ko_73 rfl ?_
            refine nv_iL dX7_isOfBoth_58 rfl ?_
            refine nv_aI dX7_isOfBoth_60 ka_95 g6 rfl ?_
            refine nv_iL dX7_isOfBoth_61 rfl ?_
            refine nv_icne dX7_isOfBoth_62 (fun c8 => ?_) (fun c8 => ?_)
            · try simp only [if_pos c8, Option.bind_some] at hf
              refine nv_k dX7_isOfBoth_65 ?_
              refine nv_goto dX7_isOfBoth_66 ?_
              refine nv_iS dX7_isOfBoth_70 (by decide) rfl rfl ?_
              refine nv_inc dX7_isOfBoth_72 rfl (v := 1) (by decide) (by decide) rfl rfl ?_
              refine nv_goto dX7_isOfBoth_75 ?_
              exact ih _ _ _ hf
            · try simp only [if_neg c8, Option.bind_some] at hf
              refine nv_k dX7_isOfBoth_69 ?_
              refine nv_iS dX7_isOfBoth_70 (by decide) rfl rfl ?_
              refine nv_inc dX7_isOfBoth_72 rfl (v := 1) (by decide) (by decide) rfl rfl ?_
              refine nv_goto dX7_isOfBoth_75 ?_
              exact ih _ _ _ hf
          · try simp only [if_neg c7, Option.bind_some] at hf
            refine nv_k dX7_isOfBoth_69 ?_
            refine nv_iS dX7_isOfBoth_70 (by decide) rfl rfl ?_
            refine nv_inc dX7_isOfBoth_72 rfl (v := 1) (by decide) (by decide) rfl rfl ?_
            refine nv_goto dX7_isOfBoth_75 ?_
            exact ih _ _ _ hf
      · replace hf := nv_in c2 hf
        refine nv_iL dX7_isOfBoth_78 rfl ?_
        obtain rfl := Option.some.inj hf
        exact nv_ireturnB (b := x4) dX7_isOfBoth_80 rfl
def pm_isOfBoth (h : nv_Hp) (x1 : Int32) (x2 : Int32) (x3 : Int32) : Option (Bool) := (pm_isOfBoth_20 h x1 x2 x3 nv_fu (pm_in (Int32.toInt64 x3) 0 (Int32.toInt64 ((1 <<< ((h 73 23) &&& 31)) - 1))) 0)
set_option maxHeartbeats 2000000 in
theorem tm_isOfBoth (G : nv_G) (h : nv_Hp) (x1 : Int32) (x2 : Int32) (x3 : Int32) {r : Bool} (hf : (pm_isOfBoth h x1 x2 x3) = some r) : nv_Mt G 1 qX7_isOfBoth [.ref 73, .int x1, .int x2, .int x3] (nv_s h) (some (.int (nv_bi r)), nv_s h) := by
  refine nv_of (by decide +kernel) (fun ad => Nat.le_of_ble_eq_true rfl) (Nat.le_refl _) (Nat.le_of_ble_eq_true rfl) ?_
  show nv_E G 1 qX7_isOfBoth 0 [some (.ref 73), some (.int x1), some (.int x2), some (.int x3), none, none] [] (nv_s h) (some (.int (nv_bi r)), nv_s h)
  unfold pm_isOfBoth at hf
  refine nv_iL dX7_isOfBoth_0 rfl ?_
  refine nv_i2l dX7_isOfBoth_1 ?_
  refine nv_lconst dX7_isOfBoth_2 (v := 0) (by decide) ?_
  refine nv_k dX7_isOfBoth_3 ?_
  refine nv_aL dX7_isOfBoth_4 rfl ?_
  refine nv_tI lf_X7_197 dX7_isOfBoth_5 ko_73 rfl ?_
  refine nv_ishl dX7_isOfBoth_8 ?_
  refine nv_k dX7_isOfBoth_9 ?_
  refine nv_isub dX7_isOfBoth_10 ?_
  refine nv_i2l dX7_isOfBoth_11 ?_
  refine nv_cSi (tm_in G h (Int32.toInt64 x3) 0 (Int32.toInt64 ((1 <<< ((h 73 23) &&& 31)) - 1))) dX7_isOfBoth_12 lm_X7_127 y_qX7_in rfl (by decide) rfl (Nat.le_of_ble_eq_true rfl) ?_
  refine nv_iS dX7_isOfBoth_15 (by decide) rfl rfl ?_
  refine nv_k dX7_isOfBoth_17 ?_
  refine nv_iS dX7_isOfBoth_18 (by decide) rfl rfl ?_
  exact tm_isOfBoth_20 G _ _ _ _ _ _ _ _ hf
/-! WhoseNameModel.letter -/
theorem dX7_letter_0 : nv_diload qX7_letter 0 1 1 := Or.inr ⟨1, rfl, by decide +kernel, rfl⟩
theorem dX7_letter_1 : nv_dc qX7_letter 1 (.invokestatic 160) 3 4 := ⟨by decide +kernel, rfl⟩
theorem dX7_letter_4 : nv_dif qX7_letter 4 .eq 37 7 := ⟨33, by decide +kernel, by decide, rfl⟩
theorem dX7_letter_7 : nv_diload qX7_letter 7 2 8 := Or.inr ⟨2, rfl, by decide +kernel, rfl⟩
theorem dX7_letter_8 : nv_dc qX7_letter 8 (.invokestatic 160) 3 11 := ⟨by decide +kernel, rfl⟩
theorem dX7_letter_11 : nv_dif qX7_letter 11 .eq 37 14 := ⟨26, by decide +kernel, by decide, rfl⟩
theorem dX7_letter_14 : nv_diload qX7_letter 14 1 15 := Or.inr ⟨1, rfl, by decide +kernel, rfl⟩
theorem dX7_letter_15 : nv_diload qX7_letter 15 2 16 := Or.inr ⟨2, rfl, by decide +kernel, rfl⟩
theorem dX7_letter_16 : nv_dic qX7_letter 16 .eq 37 19 := ⟨21, by decide +kernel, by decide, rfl⟩
theorem dX7_letter_19 : nv_daload qX7_letter 19 0 20 := Or.inr ⟨0, rfl, by decide +kernel, rfl⟩
theorem dX7_letter_20 : nv_diload qX7_letter 20 1 21 := Or.inr ⟨1, rfl, by decide +kernel, rfl⟩
theorem dX7_letter_21 : nv_diload qX7_letter 21 2 22 := Or.inr ⟨2, rfl, by decide +kernel, rfl⟩
theorem dX7_letter_22 : nv_diload qX7_letter 22 3 23 := Or.inr ⟨3, rfl, by decide +kernel, rfl⟩
theorem dX7_letter_23 : nv_dc qX7_letter 23 (.invokevirtual 314) 3 26 := ⟨by decide +kernel, rfl⟩
theorem dX7_letter_26 : nv_dif qX7_letter 26 .eq 37 29 := ⟨11, by decide +kernel, by decide, rfl⟩
theorem dX7_letter_29 : nv_diload qX7_letter 29 4 31 := Or.inl ⟨by decide +kernel, rfl⟩
theorem dX7_letter_31 : nv_dc qX7_letter 31 (.invokestatic 171) 3 34 := ⟨by decide +kernel, rfl⟩
theorem dX7_letter_34 : nv_dif qX7_letter 34 .ne 40 37 := ⟨6, by decide +kernel, by decide, rfl⟩
theorem dX7_letter_37 : nv_dk qX7_letter 37 (-2) 39 := Or.inr (Or.inl ⟨(-2), ⟨by decide +kernel, rfl⟩, by decide⟩)
theorem dX7_letter_39 : decode qX7_letter.2.1 39 = .ok (.ireturn, 1) := by decide +kernel
theorem dX7_letter_40 : nv_dk qX7_letter 40 1 41 := Or.inl ⟨1, ⟨by decide +kernel, rfl⟩, by decide⟩
theorem dX7_letter_41 : nv_distore qX7_letter 41 5 43 := Or.inl ⟨by decide +kernel, rfl⟩
theorem dX7_letter_43 : nv_diload qX7_letter 43 5 45 := Or.inl ⟨by decide +kernel, rfl⟩
theorem dX7_letter_45 : nv_dk qX7_letter 45 5 46 := Or.inl ⟨5, ⟨by decide +kernel, rfl⟩, by decide⟩
theorem dX7_letter_46 : nv_dic qX7_letter 46 .ge 170 49 := ⟨124, by decide +kernel, by decide, rfl⟩
theorem dX7_letter_49 : nv_dk qX7_letter 49 1 50 := Or.inl ⟨1, ⟨by decide +kernel, rfl⟩, by decide⟩
theorem dX7_letter_50 : nv_distore qX7_letter 50 6 52 := Or.inl ⟨by decide +kernel, rfl⟩
theorem dX7_letter_52 : nv_diload qX7_letter 52 6 54 := Or.inl ⟨by decide +kernel, rfl⟩
theorem dX7_letter_54 : nv_dk qX7_letter 54 16 56 := Or.inr (Or.inl ⟨16, ⟨by decide +kernel, rfl⟩, by decide⟩)
theorem dX7_letter_56 : nv_dic qX7_letter 56 .ge 164 59 := ⟨108, by decide +kernel, by decide, rfl⟩
theorem dX7_letter_59 : nv_dk qX7_letter 59 0 60 := Or.inl ⟨0, ⟨by decide +kernel, rfl⟩, by decide⟩
theorem dX7_letter_60 : nv_distore qX7_letter 60 7 62 := Or.inl ⟨by decide +kernel, rfl⟩
theorem dX7_letter_62 : nv_diload qX7_letter 62 7 64 := Or.inl ⟨by decide +kernel, rfl⟩
theorem dX7_letter_64 : nv_dk qX7_letter 64 500 67 := Or.inr (Or.inr ⟨500, ⟨by decide +kernel, rfl⟩, by decide⟩)
theorem dX7_letter_67 : nv_dic qX7_letter 67 .gt 158 70 := ⟨91, by decide +kernel, by decide, rfl⟩
theorem dX7_letter_70 : nv_diload qX7_letter 70 6 72 := Or.inl ⟨by decide +kernel, rfl⟩
theorem dX7_letter_72 : nv_dc qX7_letter 72 (.invokestatic 305) 3 75 := ⟨by decide +kernel, rfl⟩
theorem dX7_letter_75 : nv_diload qX7_letter 75 5 77 := Or.inl ⟨by decide +kernel, rfl⟩
theorem dX7_letter_77 : nv_dic qX7_letter 77 .ne 158 80 := ⟨81, by decide +kernel, by decide, rfl⟩
theorem dX7_letter_80 : nv_daload qX7_letter 80 0 81 := Or.inr ⟨0, rfl, by decide +kernel, rfl⟩
theorem dX7_letter_81 : nv_dk qX7_letter 81 0 82 := Or.inl ⟨0, ⟨by decide +kernel, rfl⟩, by decide⟩
theorem dX7_letter_82 : nv_diload qX7_letter 82 1 83 := Or.inr ⟨1, rfl, by decide +kernel, rfl⟩
theorem dX7_letter_83 : nv_diload qX7_letter 83 2 84 := Or.inr ⟨2, rfl, by decide +kernel, rfl⟩
theorem dX7_letter_84 : nv_dk qX7_letter 84 0 85 := Or.inl ⟨0, ⟨by decide +kernel, rfl⟩, by decide⟩
theorem dX7_letter_85 : nv_diload qX7_letter 85 6 87 := Or.inl ⟨by decide +kernel, rfl⟩
theorem dX7_letter_87 : nv_diload qX7_letter 87 7 89 := Or.inl ⟨by decide +kernel, rfl⟩
theorem dX7_letter_89 : nv_dk qX7_letter 89 0 90 := Or.inl ⟨0, ⟨by decide +kernel, rfl⟩, by decide⟩
theorem dX7_letter_90 : nv_dk qX7_letter 90 99 92 := Or.inr (Or.inl ⟨99, ⟨by decide +kernel, rfl⟩, by decide⟩)
theorem dX7_letter_92 : nv_dc qX7_letter 92 (.invokevirtual 185) 3 95 := ⟨by decide +kernel, rfl⟩
theorem dX7_letter_95 : nv_daload qX7_letter 95 0 96 := Or.inr ⟨0, rfl, by decide +kernel, rfl⟩
theorem dX7_letter_96 : nv_dk qX7_letter 96 0 97 := Or.inl ⟨0, ⟨by decide +kernel, rfl⟩, by decide⟩
theorem dX7_letter_97 : nv_diload qX7_letter 97 1 98 := Or.inr ⟨1, rfl, by decide +kernel, rfl⟩
theorem dX7_letter_98 : nv_diload qX7_letter 98 2 99 := Or.inr ⟨2, rfl, by decide +kernel, rfl⟩
theorem dX7_letter_99 : nv_diload qX7_letter 99 3 100 := Or.inr ⟨3, rfl, by decide +kernel, rfl⟩
theorem dX7_letter_100 : nv_dc qX7_letter 100 (.invokevirtual 318) 3 103 := ⟨by decide +kernel, rfl⟩
theorem dX7_letter_103 : nv_dif qX7_letter 103 .eq 121 106 := ⟨18, by decide +kernel, by decide, rfl⟩
theorem dX7_letter_106 : nv_daload qX7_letter 106 0 107 := Or.inr ⟨0, rfl, by decide +kernel, rfl⟩
theorem dX7_letter_107 : nv_dk qX7_letter 107 1 108 := Or.inl ⟨1, ⟨by decide +kernel, rfl⟩, by decide⟩
theorem dX7_letter_108 : nv_diload qX7_letter 108 1 109 := Or.inr ⟨1, rfl, by decide +kernel, rfl⟩
theorem dX7_letter_109 : nv_diload qX7_letter 109 2 110 := Or.inr ⟨2, rfl, by decide +kernel, rfl⟩
theorem dX7_letter_110 : nv_diload qX7_letter 110 3 111 := Or.inr ⟨3, rfl, by decide +kernel, rfl⟩
theorem dX7_letter_111 : nv_dc qX7_letter 111 (.invokevirtual 318) 3 114 := ⟨by decide +kernel, rfl⟩
theorem dX7_letter_114 : nv_dif qX7_letter 114 .eq 121 117 := ⟨7, by decide +kernel, by decide, rfl⟩
theorem dX7_letter_117 : nv_dk qX7_letter 117 1 118 := Or.inl ⟨1, ⟨by decide +kernel, rfl⟩, by decide⟩
theorem dX7_letter_118 : nv_dgo qX7_letter 118 122 := ⟨4, by decide +kernel, by decide⟩
theorem dX7_letter_121 : nv_dk qX7_letter 121 0 122 := Or.inl ⟨0, ⟨by decide +kernel, rfl⟩, by decide⟩
theorem dX7_letter_122 : nv_distore qX7_letter 122 8 124 := Or.inl ⟨by decide +kernel, rfl⟩
theorem dX7_letter_124 : nv_daload qX7_letter 124 0 125 := Or.inr ⟨0, rfl, by decide +kernel, rfl⟩
theorem dX7_letter_125 : nv_dc qX7_letter 125 (.dup) 1 126 := ⟨by decide +kernel, rfl⟩
theorem dX7_letter_126 : nv_dc qX7_letter 126 (.getfield 165) 3 129 := ⟨by decide +kernel, rfl⟩
theorem dX7_letter_129 : nv_dk qX7_letter 129 1 130 := Or.inl ⟨1, ⟨by decide +kernel, rfl⟩, by decide⟩
theorem dX7_letter_130 : nv_dc qX7_letter 130 (.isub) 1 131 := ⟨by decide +kernel, rfl⟩
theorem dX7_letter_131 : nv_dc qX7_letter 131 (.putfield 165) 3 134 := ⟨by decide +kernel, rfl⟩
theorem dX7_letter_134 : nv_diload qX7_letter 134 8 136 := Or.inl ⟨by decide +kernel, rfl⟩
theorem dX7_letter_136 : nv_dif qX7_letter 136 .eq 152 139 := ⟨16, by decide +kernel, by decide, rfl⟩
theorem dX7_letter_139 : nv_diload qX7_letter 139 4 141 := Or.inl ⟨by decide +kernel, rfl⟩
theorem dX7_letter_141 : nv_dif qX7_letter 141 .ne 149 144 := ⟨8, by decide +kernel, by decide, rfl⟩
theorem dX7_letter_144 : nv_diload qX7_letter 144 6 146 := Or.inl ⟨by decide +kernel, rfl⟩
theorem dX7_letter_146 : nv_dgo qX7_letter 146 151 := ⟨5, by decide +kernel, by decide⟩
theorem dX7_letter_149 : nv_diload qX7_letter 149 7 151 := Or.inl ⟨by decide +kernel, rfl⟩
theorem dX7_letter_151 : decode qX7_letter.2.1 151 = .ok (.ireturn, 1) := by decide +kernel
theorem dX7_letter_152 : nv_dc qX7_letter 152 (.iinc 7 10) 3 155 := ⟨by decide +kernel, rfl⟩
theorem dX7_letter_155 : nv_dgo qX7_letter 155 62 := ⟨(-93), by decide +kernel, by decide⟩
theorem dX7_letter_158 : nv_dc qX7_letter 158 (.iinc 6 1) 3 161 := ⟨by decide +kernel, rfl⟩
theorem dX7_letter_161 : nv_dgo qX7_letter 161 52 := ⟨(-109), by decide +kernel, by decide⟩
theorem dX7_letter_164 : nv_dc qX7_letter 164 (.iinc 5 1) 3 167 := ⟨by decide +kernel, rfl⟩
theorem dX7_letter_167 : nv_dgo qX7_letter 167 43 := ⟨(-124), by decide +kernel, by decide⟩
theorem dX7_letter_170 : nv_dk qX7_letter 170 (-1) 171 := Or.inl ⟨(-1), ⟨by decide +kernel, rfl⟩, by decide⟩
theorem dX7_letter_171 : decode qX7_letter.2.1 171 = .ok (.ireturn, 1) := by decide +kernel
def pm_letter_122 (h : nv_Hp) (x1 : Int32) (x2 : Int32) (x3 : Int32) (x4 : Int32) (x5 : Int32) (x6 : Int32) (x7 : Int32) (s0 : Bool) (rec62 : Int32 → nv_Hp → Option (Int32 × nv_Hp)) : Option (Int32 × nv_Hp) := (nv_lt (nv_up h 73 6 ((h 73 6) - 1)) fun h1 => (if s0 = true then (if x4 = 0 then some (x6, h1) else some (x7, h1)) else (rec62 (x7 + 10) h1)))
set_option maxHeartbeats 2000000 in
theorem tm_letter_122 (G : nv_G) (h : nv_Hp) (x1 : Int32) (x2 : Int32) (x3 : Int32) (x4 : Int32) (x5 : Int32) (x6 : Int32) (x7 : Int32) (s0 : Bool) (rec62 : Int32 → nv_Hp → Option (Int32 × nv_Hp)) (hrec62 : ∀ (x7 : Int32) (h : nv_Hp) (o8 : Option Value) (r : Int32 × nv_Hp), rec62 x7 h = some r → nv_E G 6 qX7_letter 62 [some (.ref 73), some (.int x1), some (.int x2), some (.int x3), some (.int x4), some (.int x5), some (.int x6), some (.int x7), o8] [] (nv_s h) (some (.int r.1), nv_s r.2)) (o8 : Option Value) (r : Int32 × nv_Hp) (hf : pm_letter_122 h x1 x2 x3 x4 x5 x6 x7 s0 rec62 = some r) : nv_E G 6 qX7_letter 122 [some (.ref 73), some (.int x1), some (.int x2), some (.int x3), some (.int x4), some (.int x5), some (.int x6), some (.int x7), o8] [.int (nv_bi s0)] (nv_s h) (some (.int r.1), nv_s r.2) := by
  unfold pm_letter_122 at hf
  refine nv_iS dX7_letter_122 (by decide) rfl rfl ?_
  refine nv_aL dX7_letter_124 rfl ?_
  refine nv_dup dX7_letter_125 rfl ?_
  refine nv_tI lf_X7_165 dX7_letter_126 ko_73 rfl ?_
  refine nv_k dX7_letter_129 ?_
  refine nv_isub dX7_letter_130 ?_
  refine nv_tP lp_X7_165 dX7_letter_131 ko_73 rfl ?_
  obtain ⟨h1, eh1, hf⟩ := nv_ltX hf
  rw [eh1]
  clear eh1
  refine nv_iL dX7_letter_134 rfl ?_
  refine nv_ifeqB dX7_letter_136 (fun c2 => ?_) (fun c2 => ?_)
  · replace hf := nv_ip c2 hf
    refine nv_iL dX7_letter_139 rfl ?_
    refine nv_ifne dX7_letter_141 (fun c3 => ?_) (fun c3 => ?_)
    · replace hf := nv_ip c3 hf
      refine nv_iL dX7_letter_144 rfl ?_
      refine nv_goto dX7_letter_146 ?_
      obtain rfl := Option.some.inj hf
      exact nv_ireturnI dX7_letter_151 rfl
    · replace hf := nv_in c3 hf
      refine nv_iL dX7_letter_149 rfl ?_
      obtain rfl := Option.some.inj hf
      exact nv_ireturnI dX7_letter_151 rfl
  · replace hf := nv_in c2 hf
    refine nv_inc dX7_letter_152 rfl (v := 10) (by decide) (by decide) rfl rfl ?_
    refine nv_goto dX7_letter_155 ?_
    exact hrec62 _ _ _ _ hf
def pm_letter_62  (x1 : Int32) (x2 : Int32) (x3 : Int32) (x4 : Int32) (x5 : Int32) (x6 : Int32) (rec52 : Int32 → nv_Hp → Option (Int32 × nv_Hp)) : Nat → Int32 → nv_Hp → Option (Int32 × nv_Hp)
  | 0, _, _ => none
  | n + 1, x7, h => (if 500 < x7 then (rec52 (x6 + 1) h) else (Option.bind (pm_ones h x6) fun q2 => (if q2 = x5 then (Option.bind (pm_lays h 0 x1 x2 0 x6 x7 0 99) fun q4 => (Option.bind (pm_isJust q4 0 x1 x2 x3) fun q5 => (Option.bind ((if q5.1 = true then (Option.bind (pm_isJust q5.2 1 x1 x2 x3) fun q6 => (if q6.1 = true then some (true, q6.2) else some (false, q6.2))) else some (false, q5.2)) : Option (Bool × nv_Hp)) fun u7 => pm_letter_122 u7.2 x1 x2 x3 x4 x5 x6 x7 u7.1 (pm_letter_62 x1 x2 x3 x4 x5 x6 rec52 n)))) else (rec52 (x6 + 1) h))))
set_option maxHeartbeats 2000000 in
theorem tm_letter_62 (G : nv_G)  (x1 : Int32) (x2 : Int32) (x3 : Int32) (x4 : Int32) (x5 : Int32) (x6 : Int32) (rec52 : Int32 → nv_Hp → Option (Int32 × nv_Hp)) (hrec52 : ∀ (x6 : Int32) (h : nv_Hp) (o7 o8 : Option Value) (r : Int32 × nv_Hp), rec52 x6 h = some r → nv_E G 6 qX7_letter 52 [some (.ref 73), some (.int x1), some (.int x2), some (.int x3), some (.int x4), some (.int x5), some (.int x6), o7, o8] [] (nv_s h) (some (.int r.1), nv_s r.2)) : ∀ (n : Nat) (x7 : Int32) (h : nv_Hp) (o8 : Option Value) (r : Int32 × nv_Hp), pm_letter_62 x1 x2 x3 x4 x5 x6 rec52 n x7 h = some r → nv_E G 6 qX7_letter 62 [some (.ref 73), some (.int x1), some (.int x2), some (.int x3), some (.int x4), some (.int x5), some (.int x6), some (.int x7), o8] [] (nv_s h) (some (.int r.1), nv_s r.2) := by
  intro n
  induction n with
  | zero =>
    intro x7 h o8 r hf
    rw [pm_letter_62] at hf
    cases hf
  | succ n ih =>
    intro x7 h o8 r hf
    rw [pm_letter_62] at hf
    refine nv_iL dX7_letter_62 rfl ?_
    refine nv_k dX7_letter_64 ?_
    refine nv_icgt dX7_letter_67 (fun c1 => ?_) (fun c1 => ?_)
    · replace hf := nv_ip c1 hf
      refine nv_inc dX7_letter_158 rfl (v := 1) (by decide) (by decide) rfl rfl ?_
      refine nv_goto dX7_letter_161 ?_
      exact hrec52 _ _ _ _ _ hf
    · replace hf := nv_in c1 hf
      refine nv_iL dX7_letter_70 rfl ?_
      obtain ⟨q2, hq2, hf⟩ := nv_bd hf
      refine nv_cSi (tm_ones G h x6 hq2) dX7_letter_72 lm_X7_305 y_qX7_ones rfl (by decide) rfl (Nat.le_of_ble_eq_true rfl) ?_
      refine nv_iL dX7_letter_75 rfl ?_
      refine nv_icne dX7_letter_77 (fun c3 => ?_) (fun c3 => ?_)
      · replace hf := nv_ip c3 hf
        refine nv_aL dX7_letter_80 rfl ?_
        refine nv_k dX7_letter_81 ?_
        refine nv_iL dX7_letter_82 rfl ?_
        refine nv_iL dX7_letter_83 rfl ?_
        refine nv_k dX7_letter_84 ?_
        refine nv_iL dX7_letter_85 rfl ?_
        refine nv_iL dX7_letter_87 rfl ?_
        refine nv_k dX7_letter_89 ?_
        refine nv_k dX7_letter_90 ?_
        obtain ⟨q4, hq4, hf⟩ := nv_bd hf
        refine nv_cVv (tm_lays G h 0 x1 x2 0 x6 x7 0 99 hq4) dX7_letter_92 lm_X7_185 y_qX7_lays ko_73 rfl rfl (by decide) rfl (Nat.le_of_ble_eq_true rfl) ?_
        refine nv_aL dX7_letter_95 rfl ?_
        refine nv_k dX7_letter_96 ?_
        refine nv_iL dX7_letter_97 rfl ?_
        refine nv_iL dX7_letter_98 rfl ?_
        refine nv_iL dX7_letter_99 rfl ?_
        obtain ⟨q5, hq5, hf⟩ := nv_bd hf
        refine nv_cVi (tm_isJust G q4 0 (by decide) x1 x2 x3 hq5) dX7_letter_100 lm_X7_318 y_qX7_isJust ko_73 rfl rfl (by decide) rfl (Nat.le_of_ble_eq_true rfl) ?_
        refine nv_ifeqB dX7_letter_103 (fun c8 => ?_) (fun c8 => ?_)
        · try simp only [if_pos c8, Option.bind_some] at hf
          refine nv_aL dX7_letter_106 rfl ?_
          refine nv_k dX7_letter_107 ?_
          refine nv_iL dX7_letter_108 rfl ?_
          refine nv_iL dX7_letter_109 rfl ?_
          refine nv_iL dX7_letter_110 rfl ?_
          obtain ⟨q9, hq9⟩ : ∃ q, pm_isJust q5.2 1 x1 x2 x3 = some q := by
            cases hq9 : pm_isJust q5.2 1 x1 x2 x3 with
            | none => exfalso; simp [hq9] at hf
            | some q => exact ⟨q, rfl⟩
          simp only [hq9, Option.bind_some] at hf
          refine nv_cVi (tm_isJust G q5.2 1 (by decide) x1 x2 x3 hq9) dX7_letter_111 lm_X7_318 y_qX7_isJust ko_73 rfl rfl (by decide) rfl (Nat.le_of_ble_eq_true rfl) ?_
          refine nv_ifeqB dX7_letter_114 (fun c10 => ?_) (fun c10 => ?_)
          · try simp only [if_pos c10, Option.bind_some] at hf
            refine nv_k dX7_letter_117 ?_
            refine nv_goto dX7_letter_118 ?_
            exact tm_letter_122 G _ _ _ _ _ _ _ _ _ _ ih _ _ hf
          · try simp only [if_neg c10, Option.bind_some] at hf
            refine nv_k dX7_letter_121 ?_
            exact tm_letter_122 G _ _ _ _ _ _ _ _ _ _ ih _ _ hf
        · try simp only [if_neg c8, Option.bind_some] at hf
          refine nv_k dX7_letter_121 ?_
          exact tm_letter_122 G _ _ _ _ _ _ _ _ _ _ ih _ _ hf
      · replace hf := nv_in c3 hf
        refine nv_inc dX7_letter_158 rfl (v := 1) (by decide) (by decide) rfl rfl ?_
        refine nv_goto dX7_letter_161 ?_
        exact hrec52 _ _ _ _ _ hf
def pm_letter_52  (x1 : Int32) (x2 : Int32) (x3 : Int32) (x4 : Int32) (x5 : Int32) (rec43 : Int32 → nv_Hp → Option (Int32 × nv_Hp)) : Nat → Int32 → nv_Hp → Option (Int32 × nv_Hp)
  | 0, _, _ => none
  | n + 1, x6, h => (if 16 ≤ x6 then (rec43 (x5 + 1) h) else (pm_letter_62 x1 x2 x3 x4 x5 x6 (pm_letter_52 x1 x2 x3 x4 x5 rec43 n) nv_fu 0 h))
set_option maxHeartbeats 2000000 in
theorem tm_letter_52 (G : nv_G)  (x1 : Int32) (x2 : Int32) (x3 : Int32) (x4 : Int32) (x5 : Int32) (rec43 : Int32 → nv_Hp → Option (Int32 × nv_Hp)) (hrec43 : ∀ (x5 : Int32) (h : nv_Hp) (o6 o7 o8 : Option Value) (r : Int32 × nv_Hp), rec43 x5 h = some r → nv_E G 6 qX7_letter 43 [some (.ref 73), some (.int x1), some (.int x2), some (.int x3), some (.int x4), some (.int x5), o6, o7, o8] [] (nv_s h) (some (.int r.1), nv_s r.2)) : ∀ (n : Nat) (x6 : Int32) (h : nv_Hp) (o7 o8 : Option Value) (r : Int32 × nv_Hp), pm_letter_52 x1 x2 x3 x4 x5 rec43 n x6 h = some r → nv_E G 6 qX7_letter 52 [some (.ref 73), some (.int x1), some (.int x2), some (.int x3), some (.int x4), some (.int x5), some (.int x6), o7, o8] [] (nv_s h) (some (.int r.1), nv_s r.2) := by
  intro n
  induction n with
  | zero =>
    intro x6 h o7 o8 r hf
    rw [pm_letter_52] at hf
    cases hf
  | succ n ih =>
    intro x6 h o7 o8 r hf
    rw [pm_letter_52] at hf
    refine nv_iL dX7_letter_52 rfl ?_
    refine nv_k dX7_letter_54 ?_
    refine nv_icge dX7_letter_56 (fun c1 => ?_) (fun c1 => ?_)
    · replace hf := nv_ip c1 hf
      refine nv_inc dX7_letter_164 rfl (v := 1) (by decide) (by decide) rfl rfl ?_
      refine nv_goto dX7_letter_167 ?_
      exact hrec43 _ _ _ _ _ _ hf
    · replace hf := nv_in c1 hf
      refine nv_k dX7_letter_59 ?_
      refine nv_iS dX7_letter_60 (by decide) rfl rfl ?_
      exact tm_letter_62 G _ _ _ _ _ _ _ ih _ _ _ _ _ hf
def pm_letter_43  (x1 : Int32) (x2 : Int32) (x3 : Int32) (x4 : Int32)  : Nat → Int32 → nv_Hp → Option (Int32 × nv_Hp)
  | 0, _, _ => none
  | n + 1, x5, h => (if 5 ≤ x5 then some ((-1), h) else (pm_letter_52 x1 x2 x3 x4 x5 (pm_letter_43 x1 x2 x3 x4 n) nv_fu 1 h))
set_option maxHeartbeats 2000000 in
theorem tm_letter_43 (G : nv_G)  (x1 : Int32) (x2 : Int32) (x3 : Int32) (x4 : Int32)  : ∀ (n : Nat) (x5 : Int32) (h : nv_Hp) (o6 o7 o8 : Option Value) (r : Int32 × nv_Hp), pm_letter_43 x1 x2 x3 x4 n x5 h = some r → nv_E G 6 qX7_letter 43 [some (.ref 73), some (.int x1), some (.int x2), some (.int x3), some (.int x4), some (.int x5), o6, o7, o8] [] (nv_s h) (some (.int r.1), nv_s r.2) := by
  intro n
  induction n with
  | zero =>
    intro x5 h o6 o7 o8 r hf
    rw [pm_letter_43] at hf
    cases hf
  | succ n ih =>
    intro x5 h o6 o7 o8 r hf
    rw [pm_letter_43] at hf
    refine nv_iL dX7_letter_43 rfl ?_
    refine nv_k dX7_letter_45 ?_
    refine nv_icge dX7_letter_46 (fun c1 => ?_) (fun c1 => ?_)
    · replace hf := nv_ip c1 hf
      refine nv_k dX7_letter_170 ?_
      obtain rfl := Option.some.inj hf
      exact nv_ireturnI dX7_letter_171 rfl
    · replace hf := nv_in c1 hf
      refine nv_k dX7_letter_49 ?_
      refine nv_iS dX7_letter_50 (by decide) rfl rfl ?_
      exact tm_letter_52 G _ _ _ _ _ _ ih _ _ _ _ _ _ hf
def pm_letter (h : nv_Hp) (x1 : Int32) (x2 : Int32) (x3 : Int32) (x4 : Int32) : Option (Int32 × nv_Hp) := (if (pm_isPerson x1) = true then (if (pm_isPerson x2) = true then (if x1 = x2 then some ((-2), h) else (Option.bind (pm_isOfBoth h x1 x2 x3) fun q4 => (if q4 = true then (if (pm_isTwo x4) = true then (pm_letter_43 x1 x2 x3 x4 nv_fu 1 h) else some ((-2), h)) else some ((-2), h)))) else some ((-2), h)) else some ((-2), h))
set_option maxHeartbeats 2000000 in
theorem tm_letter (G : nv_G) (h : nv_Hp) (x1 : Int32) (x2 : Int32) (x3 : Int32) (x4 : Int32) {r : Int32 × nv_Hp} (hf : (pm_letter h x1 x2 x3 x4) = some r) : nv_Mt G 6 qX7_letter [.ref 73, .int x1, .int x2, .int x3, .int x4] (nv_s h) (some (.int r.1), nv_s r.2) := by
  refine nv_of (by decide +kernel) (fun ad => Nat.le_of_ble_eq_true rfl) (Nat.le_refl _) (Nat.le_of_ble_eq_true rfl) ?_
  show nv_E G 6 qX7_letter 0 [some (.ref 73), some (.int x1), some (.int x2), some (.int x3), some (.int x4), none, none, none, none] [] (nv_s h) (some (.int r.1), nv_s r.2)
  unfold pm_letter at hf
  refine nv_iL dX7_letter_0 rfl ?_
  refine nv_cSi (tm_isPerson G h x1) dX7_letter_1 lm_X7_160 y_qX7_isPerson rfl (by decide) rfl (Nat.le_of_ble_eq_true rfl) ?_
  refine nv_ifeqB dX7_letter_4 (fun c1 => ?_) (fun c1 => ?_)
  · replace hf := nv_ip c1 hf
    refine nv_iL dX7_letter_7 rfl ?_
    refine nv_cSi (tm_isPerson G h x2) dX7_letter_8 lm_X7_160 y_qX7_isPerson rfl (by decide) rfl (Nat.le_of_ble_eq_true rfl) ?_
    refine nv_ifeqB dX7_letter_11 (fun c2 => ?_) (fun c2 => ?_)
    · replace hf := nv_ip c2 hf
      refine nv_iL dX7_letter_14 rfl ?_
      refine nv_iL dX7_letter_15 rfl ?_
      refine nv_iceq dX7_letter_16 (fun c3 => ?_) (fun c3 => ?_)
      · replace hf := nv_ip c3 hf
        refine nv_k dX7_letter_37 ?_
        obtain rfl := Option.some.inj hf
        exact nv_ireturnI dX7_letter_39 rfl
      · replace hf := nv_in c3 hf
        refine nv_aL dX7_letter_19 rfl ?_
        refine nv_iL dX7_letter_20 rfl ?_
        refine nv_iL dX7_letter_21 rfl ?_
        refine nv_iL dX7_letter_22 rfl ?_
        obtain ⟨q4, hq4, hf⟩ := nv_bd hf
        refine nv_cVi (tm_isOfBoth G h x1 x2 x3 hq4) dX7_letter_23 lm_X7_314 y_qX7_isOfBoth ko_73 rfl rfl (by decide) rfl (Nat.le_of_ble_eq_true rfl) ?_
        refine nv_ifeqB dX7_letter_26 (fun c5 => ?_) (fun c5 => ?_)
        · replace hf := nv_ip c5 hf
          refine nv_iL dX7_letter_29 rfl ?_
          refine nv_cSi (tm_isTwo G h x4) dX7_letter_31 lm_X7_171 y_qX7_isTwo rfl (by decide) rfl (Nat.le_of_ble_eq_true rfl) ?_
          refine nv_ifneB dX7_letter_34 (fun c6 => ?_) (fun c6 => ?_)
          · replace hf := nv_ip c6 hf
            refine nv_k dX7_letter_40 ?_
            refine nv_iS dX7_letter_41 (by decide) rfl rfl ?_
            exact tm_letter_43 G _ _ _ _ _ _ _ _ _ _ _ hf
          · replace hf := nv_in c6 hf
            refine nv_k dX7_letter_37 ?_
            obtain rfl := Option.some.inj hf
            exact nv_ireturnI dX7_letter_39 rfl
        · replace hf := nv_in c5 hf
          refine nv_k dX7_letter_37 ?_
          obtain rfl := Option.some.inj hf
          exact nv_ireturnI dX7_letter_39 rfl
    · replace hf := nv_in c2 hf
      refine nv_k dX7_letter_37 ?_
      obtain rfl := Option.some.inj hf
      exact nv_ireturnI dX7_letter_39 rfl
  · replace hf := nv_in c1 hf
    refine nv_k dX7_letter_37 ?_
    obtain rfl := Option.some.inj hf
    exact nv_ireturnI dX7_letter_39 rfl
/-! WhoseNameModel.write -/
theorem dX7_write_0 : nv_diload qX7_write 0 1 1 := Or.inr ⟨1, rfl, by decide +kernel, rfl⟩
theorem dX7_write_1 : nv_dc qX7_write 1 (.invokestatic 171) 3 4 := ⟨by decide +kernel, rfl⟩
theorem dX7_write_4 : nv_dif qX7_write 4 .eq 14 7 := ⟨10, by decide +kernel, by decide, rfl⟩
theorem dX7_write_7 : nv_diload qX7_write 7 2 8 := Or.inr ⟨2, rfl, by decide +kernel, rfl⟩
theorem dX7_write_8 : nv_dc qX7_write 8 (.invokestatic 137) 3 11 := ⟨by decide +kernel, rfl⟩
theorem dX7_write_11 : nv_dif qX7_write 11 .ne 17 14 := ⟨6, by decide +kernel, by decide, rfl⟩
theorem dX7_write_14 : nv_dk qX7_write 14 (-2) 16 := Or.inr (Or.inl ⟨(-2), ⟨by decide +kernel, rfl⟩, by decide⟩)
theorem dX7_write_16 : decode qX7_write.2.1 16 = .ok (.ireturn, 1) := by decide +kernel
theorem dX7_write_17 : nv_daload qX7_write 17 0 18 := Or.inr ⟨0, rfl, by decide +kernel, rfl⟩
theorem dX7_write_18 : nv_dc qX7_write 18 (.getfield 7) 3 21 := ⟨by decide +kernel, rfl⟩
theorem dX7_write_21 : nv_diload qX7_write 21 2 22 := Or.inr ⟨2, rfl, by decide +kernel, rfl⟩
theorem dX7_write_22 : nv_dc qX7_write 22 (.iaload) 1 23 := ⟨by decide +kernel, rfl⟩
theorem dX7_write_23 : nv_dif qX7_write 23 .ge 32 26 := ⟨9, by decide +kernel, by decide, rfl⟩
theorem dX7_write_26 : nv_daload qX7_write 26 0 27 := Or.inr ⟨0, rfl, by decide +kernel, rfl⟩
theorem dX7_write_27 : nv_dk qX7_write 27 1 28 := Or.inl ⟨1, ⟨by decide +kernel, rfl⟩, by decide⟩
theorem dX7_write_28 : nv_dc qX7_write 28 (.invokevirtual 143) 3 31 := ⟨by decide +kernel, rfl⟩
theorem dX7_write_31 : decode qX7_write.2.1 31 = .ok (.ireturn, 1) := by decide +kernel
theorem dX7_write_32 : nv_daload qX7_write 32 0 33 := Or.inr ⟨0, rfl, by decide +kernel, rfl⟩
theorem dX7_write_33 : nv_diload qX7_write 33 1 34 := Or.inr ⟨1, rfl, by decide +kernel, rfl⟩
theorem dX7_write_34 : nv_dc qX7_write 34 (.invokevirtual 292) 3 37 := ⟨by decide +kernel, rfl⟩
theorem dX7_write_37 : nv_daload qX7_write 37 0 38 := Or.inr ⟨0, rfl, by decide +kernel, rfl⟩
theorem dX7_write_38 : nv_dc qX7_write 38 (.getfield 13) 3 41 := ⟨by decide +kernel, rfl⟩
theorem dX7_write_41 : nv_diload qX7_write 41 2 42 := Or.inr ⟨2, rfl, by decide +kernel, rfl⟩
theorem dX7_write_42 : nv_dc qX7_write 42 (.iaload) 1 43 := ⟨by decide +kernel, rfl⟩
theorem dX7_write_43 : nv_dk qX7_write 43 8 45 := Or.inr (Or.inl ⟨8, ⟨by decide +kernel, rfl⟩, by decide⟩)
theorem dX7_write_45 : nv_dic qX7_write 45 .ge 57 48 := ⟨12, by decide +kernel, by decide, rfl⟩
theorem dX7_write_48 : nv_daload qX7_write 48 0 49 := Or.inr ⟨0, rfl, by decide +kernel, rfl⟩
theorem dX7_write_49 : nv_dc qX7_write 49 (.getfield 13) 3 52 := ⟨by decide +kernel, rfl⟩
theorem dX7_write_52 : nv_diload qX7_write 52 2 53 := Or.inr ⟨2, rfl, by decide +kernel, rfl⟩
theorem dX7_write_53 : nv_dc qX7_write 53 (.iaload) 1 54 := ⟨by decide +kernel, rfl⟩
theorem dX7_write_54 : nv_dgo qX7_write 54 59 := ⟨5, by decide +kernel, by decide⟩
theorem dX7_write_57 : nv_dk qX7_write 57 8 59 := Or.inr (Or.inl ⟨8, ⟨by decide +kernel, rfl⟩, by decide⟩)
theorem dX7_write_59 : nv_distore qX7_write 59 3 60 := Or.inr ⟨3, rfl, by decide +kernel, rfl⟩
theorem dX7_write_60 : nv_dk qX7_write 60 0 61 := Or.inl ⟨0, ⟨by decide +kernel, rfl⟩, by decide⟩
theorem dX7_write_61 : nv_distore qX7_write 61 4 63 := Or.inl ⟨by decide +kernel, rfl⟩
theorem dX7_write_63 : nv_diload qX7_write 63 4 65 := Or.inl ⟨by decide +kernel, rfl⟩
theorem dX7_write_65 : nv_diload qX7_write 65 3 66 := Or.inr ⟨3, rfl, by decide +kernel, rfl⟩
theorem dX7_write_66 : nv_dic qX7_write 66 .ge 103 69 := ⟨37, by decide +kernel, by decide, rfl⟩
theorem dX7_write_69 : nv_daload qX7_write 69 0 70 := Or.inr ⟨0, rfl, by decide +kernel, rfl⟩
theorem dX7_write_70 : nv_dc qX7_write 70 (.getfield 16) 3 73 := ⟨by decide +kernel, rfl⟩
theorem dX7_write_73 : nv_dk qX7_write 73 60 75 := Or.inr (Or.inl ⟨60, ⟨by decide +kernel, rfl⟩, by decide⟩)
theorem dX7_write_75 : nv_diload qX7_write 75 2 76 := Or.inr ⟨2, rfl, by decide +kernel, rfl⟩
theorem dX7_write_76 : nv_dc qX7_write 76 (.imul) 1 77 := ⟨by decide +kernel, rfl⟩
theorem dX7_write_77 : nv_diload qX7_write 77 4 79 := Or.inl ⟨by decide +kernel, rfl⟩
theorem dX7_write_79 : nv_dc qX7_write 79 (.iadd) 1 80 := ⟨by decide +kernel, rfl⟩
theorem dX7_write_80 : nv_daload qX7_write 80 0 81 := Or.inr ⟨0, rfl, by decide +kernel, rfl⟩
theorem dX7_write_81 : nv_dc qX7_write 81 (.getfield 7) 3 84 := ⟨by decide +kernel, rfl⟩
theorem dX7_write_84 : nv_diload qX7_write 84 2 85 := Or.inr ⟨2, rfl, by decide +kernel, rfl⟩
theorem dX7_write_85 : nv_dc qX7_write 85 (.iaload) 1 86 := ⟨by decide +kernel, rfl⟩
theorem dX7_write_86 : nv_daload qX7_write 86 0 87 := Or.inr ⟨0, rfl, by decide +kernel, rfl⟩
theorem dX7_write_87 : nv_dc qX7_write 87 (.getfield 115) 3 90 := ⟨by decide +kernel, rfl⟩
theorem dX7_write_90 : nv_diload qX7_write 90 4 92 := Or.inl ⟨by decide +kernel, rfl⟩
theorem dX7_write_92 : nv_dc qX7_write 92 (.iaload) 1 93 := ⟨by decide +kernel, rfl⟩
theorem dX7_write_93 : nv_dc qX7_write 93 (.invokestatic 151) 3 96 := ⟨by decide +kernel, rfl⟩
theorem dX7_write_96 : nv_dc qX7_write 96 (.iastore) 1 97 := ⟨by decide +kernel, rfl⟩
theorem dX7_write_97 : nv_dc qX7_write 97 (.iinc 4 1) 3 100 := ⟨by decide +kernel, rfl⟩
theorem dX7_write_100 : nv_dgo qX7_write 100 63 := ⟨(-37), by decide +kernel, by decide⟩
theorem dX7_write_103 : nv_diload qX7_write 103 3 104 := Or.inr ⟨3, rfl, by decide +kernel, rfl⟩
theorem dX7_write_104 : decode qX7_write.2.1 104 = .ok (.ireturn, 1) := by decide +kernel
def pm_write_63  (x2 : Int32) (x3 : Int32)  : Nat → Int32 → nv_Hp → Option (Int32 × nv_Hp)
  | 0, _, _ => none
  | n + 1, x4, h => (if x3 ≤ x4 then some (x3, h) else (if nv_inb x2 4 = true then (if nv_inb x4 8 = true then (if nv_inb ((60 * x2) + x4) 240 = true then (nv_lt (nv_up h 76 ((60 * x2) + x4).toNatClampNeg (pm_cut (h 74 x2.toNatClampNeg) (h 109 x4.toNatClampNeg))) fun h5 => ((pm_write_63 x2 x3 n) (x4 + 1) h5)) else none) else none) else none))
set_option maxHeartbeats 2000000 in
theorem tm_write_63 (G : nv_G)  (x2 : Int32) (x3 : Int32)  : ∀ (n : Nat) (x4 : Int32) (h : nv_Hp) (o1 : Option Value) (r : Int32 × nv_Hp), pm_write_63 x2 x3 n x4 h = some r → nv_E G 9 qX7_write 63 [some (.ref 73), o1, some (.int x2), some (.int x3), some (.int x4)] [] (nv_s h) (some (.int r.1), nv_s r.2) := by
  intro n
  induction n with
  | zero =>
    intro x4 h o1 r hf
    rw [pm_write_63] at hf
    cases hf
  | succ n ih =>
    intro x4 h o1 r hf
    rw [pm_write_63] at hf
    refine nv_iL dX7_write_63 rfl ?_
    refine nv_iL dX7_write_65 rfl ?_
    refine nv_icge dX7_write_66 (fun c1 => ?_) (fun c1 => ?_)
    · replace hf := nv_ip c1 hf
      refine nv_iL dX7_write_103 rfl ?_
      obtain rfl := Option.some.inj hf
      exact nv_ireturnI dX7_write_104 rfl
    · replace hf := nv_in c1 hf
      refine nv_aL dX7_write_69 rfl ?_
      refine nv_tR lf_X7_16 dX7_write_70 ko_73 rfl ?_
      refine nv_k dX7_write_73 ?_
      refine nv_iL dX7_write_75 rfl ?_
      refine nv_imul dX7_write_76 ?_
      refine nv_iL dX7_write_77 rfl ?_
      refine nv_iadd dX7_write_79 ?_
      refine nv_aL dX7_write_80 rfl ?_
      refine nv_tR lf_X7_7 dX7_write_81 ko_73 rfl ?_
      refine nv_iL dX7_write_84 rfl ?_
      obtain ⟨g2, hf⟩ := nv_gd hf
      refine nv_aI dX7_write_85 ka_74 g2 rfl ?_
      refine nv_aL dX7_write_86 rfl ?_
      refine nv_tR lf_X7_115 dX7_write_87 ko_73 rfl ?_
      refine nv_iL dX7_write_90 rfl ?_
      obtain ⟨g3, hf⟩ := nv_gd hf
      refine nv_aI dX7_write_92 ka_109 g3 rfl ?_
      refine nv_cSi (tm_cut G h (h 74 x2.toNatClampNeg) (h 109 x4.toNatClampNeg)) dX7_write_93 lm_X7_151 y_qX7_cut rfl (by decide) rfl (Nat.le_of_ble_eq_true rfl) ?_
      obtain ⟨g4, hf⟩ := nv_gd hf
      refine nv_aP dX7_write_96 ka_76 g4 rfl ?_
      obtain ⟨h5, eh5, hf⟩ := nv_ltX hf
      rw [eh5]
      clear eh5
      refine nv_inc dX7_write_97 rfl (v := 1) (by decide) (by decide) rfl rfl ?_
      refine nv_goto dX7_write_100 ?_
      exact ih _ _ _ _ hf
def pm_write (h : nv_Hp) (x1 : Int32) (x2 : Int32) : Option (Int32 × nv_Hp) := (if (pm_isTwo x1) = true then (if (pm_isSheet x2) = true then (if nv_inb x2 4 = true then (if 0 ≤ (h 74 x2.toNatClampNeg) then (if nv_inb x1 2 = true then (Option.bind (pm_findEnd h x1) fun q6 => (pm_write_63 x2 (if 8 ≤ (q6 75 x2.toNatClampNeg) then 8 else (q6 75 x2.toNatClampNeg)) nv_fu 0 q6)) else none) else (nv_lt (pm_met h 1) fun q8 => some (q8.1, q8.2))) else none) else some ((-2), h)) else some ((-2), h))
set_option maxHeartbeats 2000000 in
theorem tm_write (G : nv_G) (h : nv_Hp) (x1 : Int32) (x2 : Int32) {r : Int32 × nv_Hp} (hf : (pm_write h x1 x2) = some r) : nv_Mt G 9 qX7_write [.ref 73, .int x1, .int x2] (nv_s h) (some (.int r.1), nv_s r.2) := by
  refine nv_of (by decide +kernel) (fun ad => Nat.le_of_ble_eq_true rfl) (Nat.le_refl _) (Nat.le_of_ble_eq_true rfl) ?_
  show nv_E G 9 qX7_write 0 [some (.ref 73), some (.int x1), some (.int x2), none, none] [] (nv_s h) (some (.int r.1), nv_s r.2)
  unfold pm_write at hf
  refine nv_iL dX7_write_0 rfl ?_
  refine nv_cSi (tm_isTwo G h x1) dX7_write_1 lm_X7_171 y_qX7_isTwo rfl (by decide) rfl (Nat.le_of_ble_eq_true rfl) ?_
  refine nv_ifeqB dX7_write_4 (fun c1 => ?_) (fun c1 => ?_)
  · replace hf := nv_ip c1 hf
    refine nv_iL dX7_write_7 rfl ?_
    refine nv_cSi (tm_isSheet G h x2) dX7_write_8 lm_X7_137 y_qX7_isSheet rfl (by decide) rfl (Nat.le_of_ble_eq_true rfl) ?_
    refine nv_ifneB dX7_write_11 (fun c2 => ?_) (fun c2 => ?_)
    · replace hf := nv_ip c2 hf
      refine nv_aL dX7_write_17 rfl ?_
      refine nv_tR lf_X7_7 dX7_write_18 ko_73 rfl ?_
      refine nv_iL dX7_write_21 rfl ?_
      obtain ⟨g3, hf⟩ := nv_gd hf
      refine nv_aI dX7_write_22 ka_74 g3 rfl ?_
      refine nv_ifge dX7_write_23 (fun c4 => ?_) (fun c4 => ?_)
      · replace hf := nv_ip c4 hf
        refine nv_aL dX7_write_32 rfl ?_
        refine nv_iL dX7_write_33 rfl ?_
        obtain ⟨g5, hf⟩ := nv_gd hf
        obtain ⟨q6, hq6, hf⟩ := nv_bd hf
        refine nv_cVv (tm_findEnd G h x1 g5 hq6) dX7_write_34 lm_X7_292 y_qX7_findEnd ko_73 rfl rfl (by decide) rfl (Nat.le_of_ble_eq_true rfl) ?_
        refine nv_aL dX7_write_37 rfl ?_
        refine nv_tR lf_X7_13 dX7_write_38 ko_73 rfl ?_
        refine nv_iL dX7_write_41 rfl ?_
        refine nv_aI dX7_write_42 ka_75 g3 rfl ?_
        refine nv_k dX7_write_43 ?_
        refine nv_icge dX7_write_45 (fun c7 => ?_) (fun c7 => ?_)
        · try simp only [if_pos c7] at hf
          refine nv_k dX7_write_57 ?_
          refine nv_iS dX7_write_59 (by decide) rfl rfl ?_
          refine nv_k dX7_write_60 ?_
          refine nv_iS dX7_write_61 (by decide) rfl rfl ?_
          exact tm_write_63 G _ _ _ _ _ _ _ hf
        · try simp only [if_neg c7] at hf
          refine nv_aL dX7_write_48 rfl ?_
          refine nv_tR lf_X7_13 dX7_write_49 ko_73 rfl ?_
          refine nv_iL dX7_write_52 rfl ?_
          refine nv_aI dX7_write_53 ka_75 g3 rfl ?_
          refine nv_goto dX7_write_54 ?_
          refine nv_iS dX7_write_59 (by decide) rfl rfl ?_
          refine nv_k dX7_write_60 ?_
          refine nv_iS dX7_write_61 (by decide) rfl rfl ?_
          exact tm_write_63 G _ _ _ _ _ _ _ hf
      · replace hf := nv_in c4 hf
        refine nv_aL dX7_write_26 rfl ?_
        refine nv_k dX7_write_27 ?_
        refine nv_cVi (tm_met G h 1) dX7_write_28 lm_X7_143 y_qX7_met ko_73 rfl rfl (by decide) rfl (Nat.le_of_ble_eq_true rfl) ?_
        obtain ⟨q8, eq8, hf⟩ := nv_ltX hf
        rw [eq8]
        clear eq8
        obtain rfl := Option.some.inj hf
        exact nv_ireturnI dX7_write_31 rfl
    · replace hf := nv_in c2 hf
      refine nv_k dX7_write_14 ?_
      obtain rfl := Option.some.inj hf
      exact nv_ireturnI dX7_write_16 rfl
  · replace hf := nv_in c1 hf
    refine nv_k dX7_write_14 ?_
    obtain rfl := Option.some.inj hf
    exact nv_ireturnI dX7_write_16 rfl
/-! WhoseNameModel.count -/
theorem dX7_count_0 : nv_dk qX7_count 0 0 1 := Or.inl ⟨0, ⟨by decide +kernel, rfl⟩, by decide⟩
theorem dX7_count_1 : nv_distore qX7_count 1 2 2 := Or.inr ⟨2, rfl, by decide +kernel, rfl⟩
theorem dX7_count_2 : nv_diload qX7_count 2 1 3 := Or.inr ⟨1, rfl, by decide +kernel, rfl⟩
theorem dX7_count_3 : decode qX7_count.2.1 3 = .ok (.tableswitch 144 0 8 #[49, 54, 59, 95, 100, 105, 105, 114, 139], 49) := by decide +kernel
theorem swX7_count_3_0 (x : Int32) (hx : x = 0) : nv_dsw qX7_count 3 x 52 := by subst hx; exact Or.inl ⟨_, _, _, _, _, dX7_count_3, Or.inl ⟨49, by decide, by decide, rfl, by decide⟩⟩
theorem swX7_count_3_1 (x : Int32) (hx : x = 1) : nv_dsw qX7_count 3 x 57 := by subst hx; exact Or.inl ⟨_, _, _, _, _, dX7_count_3, Or.inl ⟨54, by decide, by decide, rfl, by decide⟩⟩
theorem swX7_count_3_2 (x : Int32) (hx : x = 2) : nv_dsw qX7_count 3 x 62 := by subst hx; exact Or.inl ⟨_, _, _, _, _, dX7_count_3, Or.inl ⟨59, by decide, by decide, rfl, by decide⟩⟩
theorem swX7_count_3_3 (x : Int32) (hx : x = 3) : nv_dsw qX7_count 3 x 98 := by subst hx; exact Or.inl ⟨_, _, _, _, _, dX7_count_3, Or.inl ⟨95, by decide, by decide, rfl, by decide⟩⟩
theorem swX7_count_3_4 (x : Int32) (hx : x = 4) : nv_dsw qX7_count 3 x 103 := by subst hx; exact Or.inl ⟨_, _, _, _, _, dX7_count_3, Or.inl ⟨100, by decide, by decide, rfl, by decide⟩⟩
theorem swX7_count_3_5 (x : Int32) (hx : x = 5) : nv_dsw qX7_count 3 x 108 := by subst hx; exact Or.inl ⟨_, _, _, _, _, dX7_count_3, Or.inl ⟨105, by decide, by decide, rfl, by decide⟩⟩
theorem swX7_count_3_6 (x : Int32) (hx : x = 6) : nv_dsw qX7_count 3 x 108 := by subst hx; exact Or.inl ⟨_, _, _, _, _, dX7_count_3, Or.inl ⟨105, by decide, by decide, rfl, by decide⟩⟩
theorem swX7_count_3_7 (x : Int32) (hx : x = 7) : nv_dsw qX7_count 3 x 117 := by subst hx; exact Or.inl ⟨_, _, _, _, _, dX7_count_3, Or.inl ⟨114, by decide, by decide, rfl, by decide⟩⟩
theorem swX7_count_3_8 (x : Int32) (hx : x = 8) : nv_dsw qX7_count 3 x 142 := by subst hx; exact Or.inl ⟨_, _, _, _, _, dX7_count_3, Or.inl ⟨139, by decide, by decide, rfl, by decide⟩⟩
theorem swX7_count_3_d (x : Int32) (c0 : ¬ x = 0) (c1 : ¬ x = 1) (c2 : ¬ x = 2) (c3 : ¬ x = 3) (c4 : ¬ x = 4) (c5 : ¬ x = 5) (c6 : ¬ x = 6) (c7 : ¬ x = 7) (c8 : ¬ x = 8) : nv_dsw qX7_count 3 x 147 := by
  have g0 : x.toInt ≠ 0 := fun e => c0 (Int32.toInt_inj.mp (e.trans (by decide)))
  have g1 : x.toInt ≠ 1 := fun e => c1 (Int32.toInt_inj.mp (e.trans (by decide)))
  have g2 : x.toInt ≠ 2 := fun e => c2 (Int32.toInt_inj.mp (e.trans (by decide)))
  have g3 : x.toInt ≠ 3 := fun e => c3 (Int32.toInt_inj.mp (e.trans (by decide)))
  have g4 : x.toInt ≠ 4 := fun e => c4 (Int32.toInt_inj.mp (e.trans (by decide)))
  have g5 : x.toInt ≠ 5 := fun e => c5 (Int32.toInt_inj.mp (e.trans (by decide)))
  have g6 : x.toInt ≠ 6 := fun e => c6 (Int32.toInt_inj.mp (e.trans (by decide)))
  have g7 : x.toInt ≠ 7 := fun e => c7 (Int32.toInt_inj.mp (e.trans (by decide)))
  have g8 : x.toInt ≠ 8 := fun e => c8 (Int32.toInt_inj.mp (e.trans (by decide)))
  exact Or.inl ⟨_, _, _, _, _, dX7_count_3, Or.inr ⟨by omega, by decide⟩⟩
theorem dX7_count_52 : nv_daload qX7_count 52 0 53 := Or.inr ⟨0, rfl, by decide +kernel, rfl⟩
theorem dX7_count_53 : nv_dc qX7_count 53 (.getfield 165) 3 56 := ⟨by decide +kernel, rfl⟩
theorem dX7_count_56 : decode qX7_count.2.1 56 = .ok (.ireturn, 1) := by decide +kernel
theorem dX7_count_57 : nv_daload qX7_count 57 0 58 := Or.inr ⟨0, rfl, by decide +kernel, rfl⟩
theorem dX7_count_58 : nv_dc qX7_count 58 (.getfield 189) 3 61 := ⟨by decide +kernel, rfl⟩
theorem dX7_count_61 : decode qX7_count.2.1 61 = .ok (.ireturn, 1) := by decide +kernel
theorem dX7_count_62 : nv_dk qX7_count 62 0 63 := Or.inl ⟨0, ⟨by decide +kernel, rfl⟩, by decide⟩
theorem dX7_count_63 : nv_distore qX7_count 63 3 64 := Or.inr ⟨3, rfl, by decide +kernel, rfl⟩
theorem dX7_count_64 : nv_diload qX7_count 64 3 65 := Or.inr ⟨3, rfl, by decide +kernel, rfl⟩
theorem dX7_count_65 : nv_daload qX7_count 65 0 66 := Or.inr ⟨0, rfl, by decide +kernel, rfl⟩
theorem dX7_count_66 : nv_dc qX7_count 66 (.getfield 189) 3 69 := ⟨by decide +kernel, rfl⟩
theorem dX7_count_69 : nv_dic qX7_count 69 .ge 96 72 := ⟨27, by decide +kernel, by decide, rfl⟩
theorem dX7_count_72 : nv_diload qX7_count 72 2 73 := Or.inr ⟨2, rfl, by decide +kernel, rfl⟩
theorem dX7_count_73 : nv_daload qX7_count 73 0 74 := Or.inr ⟨0, rfl, by decide +kernel, rfl⟩
theorem dX7_count_74 : nv_dc qX7_count 74 (.getfield 64) 3 77 := ⟨by decide +kernel, rfl⟩
theorem dX7_count_77 : nv_diload qX7_count 77 3 78 := Or.inr ⟨3, rfl, by decide +kernel, rfl⟩
theorem dX7_count_78 : nv_dc qX7_count 78 (.iaload) 1 79 := ⟨by decide +kernel, rfl⟩
theorem dX7_count_79 : nv_dk qX7_count 79 (-1) 80 := Or.inl ⟨(-1), ⟨by decide +kernel, rfl⟩, by decide⟩
theorem dX7_count_80 : nv_dic qX7_count 80 .ne 87 83 := ⟨7, by decide +kernel, by decide, rfl⟩
theorem dX7_count_83 : nv_dk qX7_count 83 1 84 := Or.inl ⟨1, ⟨by decide +kernel, rfl⟩, by decide⟩
theorem dX7_count_84 : nv_dgo qX7_count 84 88 := ⟨4, by decide +kernel, by decide⟩
theorem dX7_count_87 : nv_dk qX7_count 87 0 88 := Or.inl ⟨0, ⟨by decide +kernel, rfl⟩, by decide⟩
theorem dX7_count_88 : nv_dc qX7_count 88 (.iadd) 1 89 := ⟨by decide +kernel, rfl⟩
theorem dX7_count_89 : nv_distore qX7_count 89 2 90 := Or.inr ⟨2, rfl, by decide +kernel, rfl⟩
theorem dX7_count_90 : nv_dc qX7_count 90 (.iinc 3 1) 3 93 := ⟨by decide +kernel, rfl⟩
theorem dX7_count_93 : nv_dgo qX7_count 93 64 := ⟨(-29), by decide +kernel, by decide⟩
theorem dX7_count_96 : nv_diload qX7_count 96 2 97 := Or.inr ⟨2, rfl, by decide +kernel, rfl⟩
theorem dX7_count_97 : decode qX7_count.2.1 97 = .ok (.ireturn, 1) := by decide +kernel
theorem dX7_count_98 : nv_daload qX7_count 98 0 99 := Or.inr ⟨0, rfl, by decide +kernel, rfl⟩
theorem dX7_count_99 : nv_dc qX7_count 99 (.getfield 197) 3 102 := ⟨by decide +kernel, rfl⟩
theorem dX7_count_102 : decode qX7_count.2.1 102 = .ok (.ireturn, 1) := by decide +kernel
theorem dX7_count_103 : nv_daload qX7_count 103 0 104 := Or.inr ⟨0, rfl, by decide +kernel, rfl⟩
theorem dX7_count_104 : nv_dc qX7_count 104 (.getfield 207) 3 107 := ⟨by decide +kernel, rfl⟩
theorem dX7_count_107 : decode qX7_count.2.1 107 = .ok (.ireturn, 1) := by decide +kernel
theorem dX7_count_108 : nv_daload qX7_count 108 0 109 := Or.inr ⟨0, rfl, by decide +kernel, rfl⟩
theorem dX7_count_109 : nv_dc qX7_count 109 (.getfield 106) 3 112 := ⟨by decide +kernel, rfl⟩
theorem dX7_count_112 : nv_diload qX7_count 112 1 113 := Or.inr ⟨1, rfl, by decide +kernel, rfl⟩
theorem dX7_count_113 : nv_dk qX7_count 113 5 114 := Or.inl ⟨5, ⟨by decide +kernel, rfl⟩, by decide⟩
theorem dX7_count_114 : nv_dc qX7_count 114 (.isub) 1 115 := ⟨by decide +kernel, rfl⟩
theorem dX7_count_115 : nv_dc qX7_count 115 (.iaload) 1 116 := ⟨by decide +kernel, rfl⟩
theorem dX7_count_116 : decode qX7_count.2.1 116 = .ok (.ireturn, 1) := by decide +kernel
theorem dX7_count_117 : nv_dk qX7_count 117 0 118 := Or.inl ⟨0, ⟨by decide +kernel, rfl⟩, by decide⟩
theorem dX7_count_118 : nv_distore qX7_count 118 3 119 := Or.inr ⟨3, rfl, by decide +kernel, rfl⟩
theorem dX7_count_119 : nv_diload qX7_count 119 3 120 := Or.inr ⟨3, rfl, by decide +kernel, rfl⟩
theorem dX7_count_120 : nv_dk qX7_count 120 8 122 := Or.inr (Or.inl ⟨8, ⟨by decide +kernel, rfl⟩, by decide⟩)
theorem dX7_count_122 : nv_dic qX7_count 122 .ge 140 125 := ⟨18, by decide +kernel, by decide, rfl⟩
theorem dX7_count_125 : nv_diload qX7_count 125 2 126 := Or.inr ⟨2, rfl, by decide +kernel, rfl⟩
theorem dX7_count_126 : nv_daload qX7_count 126 0 127 := Or.inr ⟨0, rfl, by decide +kernel, rfl⟩
theorem dX7_count_127 : nv_dc qX7_count 127 (.getfield 22) 3 130 := ⟨by decide +kernel, rfl⟩
theorem dX7_count_130 : nv_diload qX7_count 130 3 131 := Or.inr ⟨3, rfl, by decide +kernel, rfl⟩
theorem dX7_count_131 : nv_dc qX7_count 131 (.iaload) 1 132 := ⟨by decide +kernel, rfl⟩
theorem dX7_count_132 : nv_dc qX7_count 132 (.iadd) 1 133 := ⟨by decide +kernel, rfl⟩
theorem dX7_count_133 : nv_distore qX7_count 133 2 134 := Or.inr ⟨2, rfl, by decide +kernel, rfl⟩
theorem dX7_count_134 : nv_dc qX7_count 134 (.iinc 3 1) 3 137 := ⟨by decide +kernel, rfl⟩
theorem dX7_count_137 : nv_dgo qX7_count 137 119 := ⟨(-18), by decide +kernel, by decide⟩
theorem dX7_count_140 : nv_diload qX7_count 140 2 141 := Or.inr ⟨2, rfl, by decide +kernel, rfl⟩
theorem dX7_count_141 : decode qX7_count.2.1 141 = .ok (.ireturn, 1) := by decide +kernel
theorem dX7_count_142 : nv_daload qX7_count 142 0 143 := Or.inr ⟨0, rfl, by decide +kernel, rfl⟩
theorem dX7_count_143 : nv_dc qX7_count 143 (.getfield 131) 3 146 := ⟨by decide +kernel, rfl⟩
theorem dX7_count_146 : decode qX7_count.2.1 146 = .ok (.ireturn, 1) := by decide +kernel
theorem dX7_count_147 : nv_dk qX7_count 147 (-2) 149 := Or.inr (Or.inl ⟨(-2), ⟨by decide +kernel, rfl⟩, by decide⟩)
theorem dX7_count_149 : decode qX7_count.2.1 149 = .ok (.ireturn, 1) := by decide +kernel
def pm_count_119 (h : nv_Hp)   : Nat → Int32 → Int32 → Option (Int32)
  | 0, _, _ => none
  | n + 1, x2, x3 => (if 8 ≤ x3 then some x2 else (if nv_inb x3 8 = true then (nv_lt ((x2 + (h 78 x3.toNatClampNeg))) fun v3 => ((pm_count_119 h n) v3 (x3 + 1))) else none))
set_option maxHeartbeats 2000000 in
theorem tm_count_119 (G : nv_G) (h : nv_Hp)   : ∀ (n : Nat) (x2 : Int32) (x3 : Int32) (o1 : Option Value) (r : Int32), pm_count_119 h n x2 x3 = some r → nv_E G 0 qX7_count 119 [some (.ref 73), o1, some (.int x2), some (.int x3)] [] (nv_s h) (some (.int r), nv_s h) := by
  intro n
  induction n with
  | zero =>
    intro x2 x3 o1 r hf
    rw [pm_count_119] at hf
    cases hf
  | succ n ih =>
    intro x2 x3 o1 r hf
    rw [pm_count_119] at hf
    refine nv_iL dX7_count_119 rfl ?_
    refine nv_k dX7_count_120 ?_
    refine nv_icge dX7_count_122 (fun c1 => ?_) (fun c1 => ?_)
    · replace hf := nv_ip c1 hf
      refine nv_iL dX7_count_140 rfl ?_
      obtain rfl := Option.some.inj hf
      exact nv_ireturnI dX7_count_141 rfl
    · replace hf := nv_in c1 hf
      refine nv_iL dX7_count_125 rfl ?_
      refine nv_aL dX7_count_126 rfl ?_
      refine nv_tR lf_X7_22 dX7_count_127 ko_73 rfl ?_
      refine nv_iL dX7_count_130 rfl ?_
      obtain ⟨g2, hf⟩ := nv_gd hf
      refine nv_aI dX7_count_131 ka_78 g2 rfl ?_
      refine nv_iadd dX7_count_132 ?_
      obtain ⟨v3, ev3, hf⟩ := nv_ltX hf
      rw [ev3]
      clear ev3
      refine nv_wk 1 rfl ?_
      refine nv_iS dX7_count_133 (by decide) rfl rfl ?_
      refine nv_inc dX7_count_134 rfl (v := 1) (by decide) (by decide) rfl rfl ?_
      refine nv_goto dX7_count_137 ?_
      exact ih _ _ _ _ hf
def pm_count_64 (h : nv_Hp)   : Nat → Int32 → Int32 → Option (Int32)
  | 0, _, _ => none
  | n + 1, x2, x3 => (if (h 73 17) ≤ x3 then some x2 else (if nv_inb x3 12 = true then ((pm_count_64 h n) (x2 + (nv_bi (if (h 92 x3.toNatClampNeg) = (-1) then true else false))) (x3 + 1)) else none))
set_option maxHeartbeats 2000000 in
theorem tm_count_64 (G : nv_G) (h : nv_Hp)   : ∀ (n : Nat) (x2 : Int32) (x3 : Int32) (o1 : Option Value) (r : Int32), pm_count_64 h n x2 x3 = some r → nv_E G 0 qX7_count 64 [some (.ref 73), o1, some (.int x2), some (.int x3)] [] (nv_s h) (some (.int r), nv_s h) := by
  intro n
  induction n with
  | zero =>
    intro x2 x3 o1 r hf
    rw [pm_count_64] at hf
    cases hf
  | succ n ih =>
    intro x2 x3 o1 r hf
    rw [pm_count_64] at hf
    refine nv_iL dX7_count_64 rfl ?_
    refine nv_aL dX7_count_65 rfl ?_
    refine nv_tI lf_X7_189 dX7_count_66 ko_73 rfl ?_
    refine nv_icge dX7_count_69 (fun c1 => ?_) (fun c1 => ?_)
    · replace hf := nv_ip c1 hf
      refine nv_iL dX7_count_96 rfl ?_
      obtain rfl := Option.some.inj hf
      exact nv_ireturnI dX7_count_97 rfl
    · replace hf := nv_in c1 hf
      refine nv_iL dX7_count_72 rfl ?_
      refine nv_aL dX7_count_73 rfl ?_
      refine nv_tR lf_X7_64 dX7_count_74 ko_73 rfl ?_
      refine nv_iL dX7_count_77 rfl ?_
      obtain ⟨g2, hf⟩ := nv_gd hf
      refine nv_aI dX7_count_78 ka_92 g2 rfl ?_
      refine nv_k dX7_count_79 ?_
      refine nv_icne dX7_count_80 (fun c3 => ?_) (fun c3 => ?_)
      · try simp only [if_pos c3] at hf
        refine nv_k dX7_count_83 ?_
        refine nv_goto dX7_count_84 ?_
        refine nv_iadd dX7_count_88 ?_
        refine nv_wk 1 rfl ?_
        refine nv_iS dX7_count_89 (by decide) rfl rfl ?_
        refine nv_inc dX7_count_90 rfl (v := 1) (by decide) (by decide) rfl rfl ?_
        refine nv_goto dX7_count_93 ?_
        exact ih _ _ _ _ hf
      · try simp only [if_neg c3] at hf
        refine nv_k dX7_count_87 ?_
        refine nv_iadd dX7_count_88 ?_
        refine nv_wk 1 rfl ?_
        refine nv_iS dX7_count_89 (by decide) rfl rfl ?_
        refine nv_inc dX7_count_90 rfl (v := 1) (by decide) (by decide) rfl rfl ?_
        refine nv_goto dX7_count_93 ?_
        exact ih _ _ _ _ hf
def pm_count (h : nv_Hp) (x1 : Int32) : Option (Int32) := (if x1 = 0 then some (h 73 6) else (if x1 = 1 then some (h 73 17) else (if x1 = 2 then (pm_count_64 h nv_fu 0 0) else (if x1 = 3 then some (h 73 23) else (if x1 = 4 then some (h 73 30) else (if x1 = 5 then (if nv_inb (x1 - 5) 2 = true then some (h 106 (x1 - 5).toNatClampNeg) else none) else (if x1 = 6 then (if nv_inb (x1 - 5) 2 = true then some (h 106 (x1 - 5).toNatClampNeg) else none) else (if x1 = 7 then (pm_count_119 h nv_fu 0 0) else (if x1 = 8 then some (h 73 4) else some (-2))))))))))
set_option maxHeartbeats 2000000 in
theorem tm_count (G : nv_G) (h : nv_Hp) (x1 : Int32) {r : Int32} (hf : (pm_count h x1) = some r) : nv_Mt G 0 qX7_count [.ref 73, .int x1] (nv_s h) (some (.int r), nv_s h) := by
  refine nv_of (by decide +kernel) (fun ad => Nat.le_of_ble_eq_true rfl) (Nat.le_refl _) (Nat.le_of_ble_eq_true rfl) ?_
  show nv_E G 0 qX7_count 0 [some (.ref 73), some (.int x1), none, none] [] (nv_s h) (some (.int r), nv_s h)
  unfold pm_count at hf
  refine nv_k dX7_count_0 ?_
  refine nv_iS dX7_count_1 (by decide) rfl rfl ?_
  refine nv_iL dX7_count_2 rfl ?_
  by_cases c1 : x1 = 0
  · replace hf := nv_ip c1 hf
    refine nv_switch (tgt := 52) (swX7_count_3_0 _ c1) ?_
    refine nv_aL dX7_count_52 rfl ?_
    refine nv_tI lf_X7_165 dX7_count_53 ko_73 rfl ?_
    obtain rfl := Option.some.inj hf
    exact nv_ireturnI dX7_count_56 rfl
  · replace hf := nv_in c1 hf
    by_cases c2 : x1 = 1
    · replace hf := nv_ip c2 hf
      refine nv_switch (tgt := 57) (swX7_count_3_1 _ c2) ?_
      refine nv_aL dX7_count_57 rfl ?_
      refine nv_tI lf_X7_189 dX7_count_58 ko_73 rfl ?_
      obtain rfl := Option.some.inj hf
      exact nv_ireturnI dX7_count_61 rfl
    · replace hf := nv_in c2 hf
      by_cases c3 : x1 = 2
      · replace hf := nv_ip c3 hf
        refine nv_switch (tgt := 62) (swX7_count_3_2 _ c3) ?_
        refine nv_k dX7_count_62 ?_
        refine nv_iS dX7_count_63 (by decide) rfl rfl ?_
        exact tm_count_64 G _ _ _ _ _ _ hf
      · replace hf := nv_in c3 hf
        by_cases c4 : x1 = 3
        · replace hf := nv_ip c4 hf
          refine nv_switch (tgt := 98) (swX7_count_3_3 _ c4) ?_
          refine nv_aL dX7_count_98 rfl ?_
          refine nv_tI lf_X7_197 dX7_count_99 ko_73 rfl ?_
          obtain rfl := Option.some.inj hf
          exact nv_ireturnI dX7_count_102 rfl
        · replace hf := nv_in c4 hf
          by_cases c5 : x1 = 4
          · replace hf := nv_ip c5 hf
            refine nv_switch (tgt := 103) (swX7_count_3_4 _ c5) ?_
            refine nv_aL dX7_count_103 rfl ?_
            refine nv_tI lf_X7_207 dX7_count_104 ko_73 rfl ?_
            obtain rfl := Option.some.inj hf
            exact nv_ireturnI dX7_count_107 rfl
          · replace hf := nv_in c5 hf
            by_cases c6 : x1 = 5
            · replace hf := nv_ip c6 hf
              refine nv_switch (tgt := 108) (swX7_count_3_5 _ c6) ?_
              refine nv_aL dX7_count_108 rfl ?_
              refine nv_tR lf_X7_106 dX7_count_109 ko_73 rfl ?_
              refine nv_iL dX7_count_112 rfl ?_
              refine nv_k dX7_count_113 ?_
              refine nv_isub dX7_count_114 ?_
              obtain ⟨g7, hf⟩ := nv_gd hf
              refine nv_aI dX7_count_115 ka_106 g7 rfl ?_
              obtain rfl := Option.some.inj hf
              exact nv_ireturnI dX7_count_116 rfl
            · replace hf := nv_in c6 hf
              by_cases c8 : x1 = 6
              · replace hf := nv_ip c8 hf
                refine nv_switch (tgt := 108) (swX7_count_3_6 _ c8) ?_
                refine nv_aL dX7_count_108 rfl ?_
                refine nv_tR lf_X7_106 dX7_count_109 ko_73 rfl ?_
                refine nv_iL dX7_count_112 rfl ?_
                refine nv_k dX7_count_113 ?_
                refine nv_isub dX7_count_114 ?_
                obtain ⟨g9, hf⟩ := nv_gd hf
                refine nv_aI dX7_count_115 ka_106 g9 rfl ?_
                obtain rfl := Option.some.inj hf
                exact nv_ireturnI dX7_count_116 rfl
              · replace hf := nv_in c8 hf
                by_cases c10 : x1 = 7
                · replace hf := nv_ip c10 hf
                  refine nv_switch (tgt := 117) (swX7_count_3_7 _ c10) ?_
                  refine nv_k dX7_count_117 ?_
                  refine nv_iS dX7_count_118 (by decide) rfl rfl ?_
                  exact tm_count_119 G _ _ _ _ _ _ hf
                · replace hf := nv_in c10 hf
                  by_cases c11 : x1 = 8
                  · replace hf := nv_ip c11 hf
                    refine nv_switch (tgt := 142) (swX7_count_3_8 _ c11) ?_
                    refine nv_aL dX7_count_142 rfl ?_
                    refine nv_tI lf_X7_131 dX7_count_143 ko_73 rfl ?_
                    obtain rfl := Option.some.inj hf
                    exact nv_ireturnI dX7_count_146 rfl
                  · replace hf := nv_in c11 hf
                    refine nv_switch (tgt := 147) (swX7_count_3_d _ c1 c2 c3 c4 c5 c6 c8 c10 c11) ?_
                    refine nv_k dX7_count_147 ?_
                    obtain rfl := Option.some.inj hf
                    exact nv_ireturnI dX7_count_149 rfl
