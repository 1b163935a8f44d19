/-! WhoseName.tryWays -/
theorem dX6_tryWays_0 : nv_daload qX6_tryWays 0 0 1 := Or.inr ⟨0, rfl, by decide +kernel, rfl⟩
theorem dX6_tryWays_1 : nv_dc qX6_tryWays 1 (.invokevirtual 334) 3 4 := ⟨by decide +kernel, rfl⟩
theorem dX6_tryWays_4 : nv_dk qX6_tryWays 4 1 5 := Or.inl ⟨1, ⟨by decide +kernel, rfl⟩, by decide⟩
theorem dX6_tryWays_5 : nv_daload qX6_tryWays 5 0 6 := Or.inr ⟨0, rfl, by decide +kernel, rfl⟩
theorem dX6_tryWays_6 : nv_dc qX6_tryWays 6 (.getfield 337) 3 9 := ⟨by decide +kernel, rfl⟩
theorem dX6_tryWays_9 : nv_dc qX6_tryWays 9 (.ishl) 1 10 := ⟨by decide +kernel, rfl⟩
theorem dX6_tryWays_10 : nv_distore qX6_tryWays 10 3 11 := Or.inr ⟨3, rfl, by decide +kernel, rfl⟩
theorem dX6_tryWays_11 : nv_dk qX6_tryWays 11 0 12 := Or.inl ⟨0, ⟨by decide +kernel, rfl⟩, by decide⟩
theorem dX6_tryWays_12 : nv_distore qX6_tryWays 12 4 14 := Or.inl ⟨by decide +kernel, rfl⟩
theorem dX6_tryWays_14 : nv_diload qX6_tryWays 14 4 16 := Or.inl ⟨by decide +kernel, rfl⟩
theorem dX6_tryWays_16 : nv_diload qX6_tryWays 16 3 17 := Or.inr ⟨3, rfl, by decide +kernel, rfl⟩
theorem dX6_tryWays_17 : nv_dic qX6_tryWays 17 .ge 52 20 := ⟨35, by decide +kernel, by decide, rfl⟩
theorem dX6_tryWays_20 : nv_diload qX6_tryWays 20 4 22 := Or.inl ⟨by decide +kernel, rfl⟩
theorem dX6_tryWays_22 : nv_dk qX6_tryWays 22 64 24 := Or.inr (Or.inl ⟨64, ⟨by decide +kernel, rfl⟩, by decide⟩)
theorem dX6_tryWays_24 : nv_dic qX6_tryWays 24 .ge 52 27 := ⟨28, by decide +kernel, by decide, rfl⟩
theorem dX6_tryWays_27 : nv_daload qX6_tryWays 27 0 28 := Or.inr ⟨0, rfl, by decide +kernel, rfl⟩
theorem dX6_tryWays_28 : nv_dc qX6_tryWays 28 (.getfield 61) 3 31 := ⟨by decide +kernel, rfl⟩
theorem dX6_tryWays_31 : nv_diload qX6_tryWays 31 4 33 := Or.inl ⟨by decide +kernel, rfl⟩
theorem dX6_tryWays_33 : nv_daload qX6_tryWays 33 0 34 := Or.inr ⟨0, rfl, by decide +kernel, rfl⟩
theorem dX6_tryWays_34 : nv_daload qX6_tryWays 34 1 35 := Or.inr ⟨1, rfl, by decide +kernel, rfl⟩
theorem dX6_tryWays_35 : nv_daload qX6_tryWays 35 2 36 := Or.inr ⟨2, rfl, by decide +kernel, rfl⟩
theorem dX6_tryWays_36 : nv_daload qX6_tryWays 36 0 37 := Or.inr ⟨0, rfl, by decide +kernel, rfl⟩
theorem dX6_tryWays_37 : nv_diload qX6_tryWays 37 4 39 := Or.inl ⟨by decide +kernel, rfl⟩
theorem dX6_tryWays_39 : nv_dc qX6_tryWays 39 (.invokevirtual 360) 3 42 := ⟨by decide +kernel, rfl⟩
theorem dX6_tryWays_42 : nv_dc qX6_tryWays 42 (.invokevirtual 241) 3 45 := ⟨by decide +kernel, rfl⟩
theorem dX6_tryWays_45 : nv_dc qX6_tryWays 45 (.iastore) 1 46 := ⟨by decide +kernel, rfl⟩
theorem dX6_tryWays_46 : nv_dc qX6_tryWays 46 (.iinc 4 1) 3 49 := ⟨by decide +kernel, rfl⟩
theorem dX6_tryWays_49 : nv_dgo qX6_tryWays 49 14 := ⟨(-35), by decide +kernel, by decide⟩
theorem dX6_tryWays_52 : nv_diload qX6_tryWays 52 3 53 := Or.inr ⟨3, rfl, by decide +kernel, rfl⟩
theorem dX6_tryWays_53 : decode qX6_tryWays.2.1 53 = .ok (.ireturn, 1) := by decide +kernel
def fc_tryWays_14  (k1 : Nat) (k2 : Nat) (x3 : Int32)  : Nat → Int32 → nv_Hp → Option (Int32 × nv_Hp)
  | 0, _, _ => none
  | n + 1, x4, h => (if x3 ≤ x4 then some (x3, h) else (if 64 ≤ x4 then some (x3, h) else (Option.bind (fc_wayOf h x4) fun q3 => (Option.bind (fc_boundBits h k1 k2 q3) fun q4 => (if nv_inb x4 64 = true then (nv_lt (nv_up h 12 x4.toNatClampNeg q4) fun h6 => ((fc_tryWays_14 k1 k2 x3 n) (x4 + 1) h6)) else none)))))
set_option maxHeartbeats 2000000 in
theorem tc_tryWays_14 (G : nv_G)  (k1 : Nat) (hk1 : nv_A 9 k1) (k2 : Nat) (hk2 : nv_O 2 k2) (x3 : Int32)  : ∀ (n : Nat) (x4 : Int32) (h : nv_Hp) (r : Int32 × nv_Hp), fc_tryWays_14 k1 k2 x3 n x4 h = some r → nv_E G 5 qX6_tryWays 14 [some (.ref 0), some (.ref k1), some (.ref k2), some (.int x3), some (.int x4)] [] (nv_s h) (some (.int r.1), nv_s r.2) := by
  intro n
  induction n with
  | zero =>
    intro x4 h r hf
    rw [fc_tryWays_14] at hf
    cases hf
  | succ n ih =>
    intro x4 h r hf
    rw [fc_tryWays_14] at hf
    refine nv_iL dX6_tryWays_14 rfl ?_
    refine nv_iL dX6_tryWays_16 rfl ?_
    refine nv_icge dX6_tryWays_17 (fun c1 => ?_) (fun c1 => ?_)
    · replace hf := nv_ip c1 hf
      refine nv_iL dX6_tryWays_52 rfl ?_
      obtain rfl := Option.some.inj hf
      exact nv_ireturnI dX6_tryWays_53 rfl
    · replace hf := nv_in c1 hf
      refine nv_iL dX6_tryWays_20 rfl ?_
      refine nv_k dX6_tryWays_22 ?_
      refine nv_icge dX6_tryWays_24 (fun c2 => ?_) (fun c2 => ?_)
      · replace hf := nv_ip c2 hf
        refine nv_iL dX6_tryWays_52 rfl ?_
        obtain rfl := Option.some.inj hf
        exact nv_ireturnI dX6_tryWays_53 rfl
      · replace hf := nv_in c2 hf
        refine nv_aL dX6_tryWays_27 rfl ?_
        refine nv_tR lf_X6_61 dX6_tryWays_28 ko_0 rfl ?_
        refine nv_iL dX6_tryWays_31 rfl ?_
        refine nv_aL dX6_tryWays_33 rfl ?_
        refine nv_aL dX6_tryWays_34 rfl ?_
        refine nv_aL dX6_tryWays_35 rfl ?_
        refine nv_aL dX6_tryWays_36 rfl ?_
        refine nv_iL dX6_tryWays_37 rfl ?_
        obtain ⟨q3, hq3, hf⟩ := nv_bd hf
        refine nv_cVi (tc_wayOf G h x4 hq3) dX6_tryWays_39 lm_X6_360 y_qX6_wayOf ko_0 rfl rfl (by decide) rfl (Nat.le_of_ble_eq_true rfl) ?_
        obtain ⟨q4, hq4, hf⟩ := nv_bd hf
        refine nv_cVi (tc_boundBits G h k1 hk1 k2 hk2 q3 hq4) dX6_tryWays_42 lm_X6_241 y_qX6_boundBits ko_0 rfl rfl (by decide) rfl (Nat.le_of_ble_eq_true rfl) ?_
        obtain ⟨g5, hf⟩ := nv_gd hf
        refine nv_aP dX6_tryWays_45 ka_12 g5 rfl ?_
        obtain ⟨h6, eh6, hf⟩ := nv_ltX hf
        rw [eh6]
        clear eh6
        refine nv_inc dX6_tryWays_46 rfl (v := 1) (by decide) (by decide) rfl rfl ?_
        refine nv_goto dX6_tryWays_49 ?_
        exact ih _ _ _ hf
def fc_tryWays (h : nv_Hp) (k1 : Nat) (k2 : Nat) : Option (Int32 × nv_Hp) := (Option.bind (fc_findOpenBacks h) fun q1 => (nv_lt ((1 <<< ((q1 0 17) &&& 31))) fun v2 => (fc_tryWays_14 k1 k2 v2 nv_fu 0 q1)))
set_option maxHeartbeats 2000000 in
theorem tc_tryWays (G : nv_G) (h : nv_Hp) (k1 : Nat) (hk1 : nv_A 9 k1) (k2 : Nat) (hk2 : nv_O 2 k2) {r : Int32 × nv_Hp} (hf : (fc_tryWays h k1 k2) = some r) : nv_Mt G 5 qX6_tryWays [.ref 0, .ref k1, .ref k2] (nv_s h) (some (.int r.1), nv_s r.2) := by
  refine nv_of (by decide +kernel) (fun ad => Nat.le_of_ble_eq_true rfl) (Nat.le_refl _) (Nat.le_of_ble_eq_true rfl) ?_
  show nv_E G 5 qX6_tryWays 0 [some (.ref 0), some (.ref k1), some (.ref k2), none, none] [] (nv_s h) (some (.int r.1), nv_s r.2)
  unfold fc_tryWays at hf
  refine nv_aL dX6_tryWays_0 rfl ?_
  obtain ⟨q1, hq1, hf⟩ := nv_bd hf
  refine nv_cVv (tc_findOpenBacks G h hq1) dX6_tryWays_1 lm_X6_334 y_qX6_findOpenBacks ko_0 rfl rfl (by decide) rfl (Nat.le_of_ble_eq_true rfl) ?_
  refine nv_k dX6_tryWays_4 ?_
  refine nv_aL dX6_tryWays_5 rfl ?_
  refine nv_tI lf_X6_337 dX6_tryWays_6 ko_0 rfl ?_
  refine nv_ishl dX6_tryWays_9 ?_
  obtain ⟨v2, ev2, hf⟩ := nv_ltX hf
  rw [ev2]
  clear ev2
  refine nv_iS dX6_tryWays_10 (by decide) rfl rfl ?_
  refine nv_k dX6_tryWays_11 ?_
  refine nv_iS dX6_tryWays_12 (by decide) rfl rfl ?_
  exact tc_tryWays_14 G _ hk1 _ hk2 _ _ _ _ _ hf
/-! WhoseName.sure -/
theorem dX6_sure_0 : nv_diload qX6_sure 0 1 1 := Or.inr ⟨1, rfl, by decide +kernel, rfl⟩
theorem dX6_sure_1 : nv_dc qX6_sure 1 (.invokestatic 217) 3 4 := ⟨by decide +kernel, rfl⟩
theorem dX6_sure_4 : nv_dif qX6_sure 4 .eq 22 7 := ⟨18, by decide +kernel, by decide, rfl⟩
theorem dX6_sure_7 : nv_daload qX6_sure 7 0 8 := Or.inr ⟨0, rfl, by decide +kernel, rfl⟩
theorem dX6_sure_8 : nv_diload qX6_sure 8 2 9 := Or.inr ⟨2, rfl, by decide +kernel, rfl⟩
theorem dX6_sure_9 : nv_dc qX6_sure 9 (.invokevirtual 201) 3 12 := ⟨by decide +kernel, rfl⟩
theorem dX6_sure_12 : nv_dif qX6_sure 12 .eq 22 15 := ⟨10, by decide +kernel, by decide, rfl⟩
theorem dX6_sure_15 : nv_diload qX6_sure 15 3 16 := Or.inr ⟨3, rfl, by decide +kernel, rfl⟩
theorem dX6_sure_16 : nv_dc qX6_sure 16 (.invokestatic 70) 3 19 := ⟨by decide +kernel, rfl⟩
theorem dX6_sure_19 : nv_dif qX6_sure 19 .ne 25 22 := ⟨6, by decide +kernel, by decide, rfl⟩
theorem dX6_sure_22 : nv_dk qX6_sure 22 (-2) 24 := Or.inr (Or.inl ⟨(-2), ⟨by decide +kernel, rfl⟩, by decide⟩)
theorem dX6_sure_24 : decode qX6_sure.2.1 24 = .ok (.ireturn, 1) := by decide +kernel
theorem dX6_sure_25 : nv_daload qX6_sure 25 0 26 := Or.inr ⟨0, rfl, by decide +kernel, rfl⟩
theorem dX6_sure_26 : nv_daload qX6_sure 26 0 27 := Or.inr ⟨0, rfl, by decide +kernel, rfl⟩
theorem dX6_sure_27 : nv_dc qX6_sure 27 (.getfield 39) 3 30 := ⟨by decide +kernel, rfl⟩
theorem dX6_sure_30 : nv_diload qX6_sure 30 1 31 := Or.inr ⟨1, rfl, by decide +kernel, rfl⟩
theorem dX6_sure_31 : nv_dc qX6_sure 31 (.aaload) 1 32 := ⟨by decide +kernel, rfl⟩
theorem dX6_sure_32 : nv_dc qX6_sure 32 (.getfield 231) 3 35 := ⟨by decide +kernel, rfl⟩
theorem dX6_sure_35 : nv_daload qX6_sure 35 0 36 := Or.inr ⟨0, rfl, by decide +kernel, rfl⟩
theorem dX6_sure_36 : nv_dc qX6_sure 36 (.getfield 27) 3 39 := ⟨by decide +kernel, rfl⟩
theorem dX6_sure_39 : nv_diload qX6_sure 39 2 40 := Or.inr ⟨2, rfl, by decide +kernel, rfl⟩
theorem dX6_sure_40 : nv_dc qX6_sure 40 (.aaload) 1 41 := ⟨by decide +kernel, rfl⟩
theorem dX6_sure_41 : nv_dc qX6_sure 41 (.invokevirtual 330) 3 44 := ⟨by decide +kernel, rfl⟩
theorem dX6_sure_44 : nv_distore qX6_sure 44 4 46 := Or.inl ⟨by decide +kernel, rfl⟩
theorem dX6_sure_46 : nv_dk qX6_sure 46 0 47 := Or.inl ⟨0, ⟨by decide +kernel, rfl⟩, by decide⟩
theorem dX6_sure_47 : nv_distore qX6_sure 47 5 49 := Or.inl ⟨by decide +kernel, rfl⟩
theorem dX6_sure_49 : nv_dk qX6_sure 49 0 50 := Or.inl ⟨0, ⟨by decide +kernel, rfl⟩, by decide⟩
theorem dX6_sure_50 : nv_distore qX6_sure 50 6 52 := Or.inl ⟨by decide +kernel, rfl⟩
theorem dX6_sure_52 : nv_diload qX6_sure 52 6 54 := Or.inl ⟨by decide +kernel, rfl⟩
theorem dX6_sure_54 : nv_diload qX6_sure 54 4 56 := Or.inl ⟨by decide +kernel, rfl⟩
theorem dX6_sure_56 : nv_dic qX6_sure 56 .ge 82 59 := ⟨26, by decide +kernel, by decide, rfl⟩
theorem dX6_sure_59 : nv_daload qX6_sure 59 0 60 := Or.inr ⟨0, rfl, by decide +kernel, rfl⟩
theorem dX6_sure_60 : nv_dc qX6_sure 60 (.getfield 61) 3 63 := ⟨by decide +kernel, rfl⟩
theorem dX6_sure_63 : nv_diload qX6_sure 63 6 65 := Or.inl ⟨by decide +kernel, rfl⟩
theorem dX6_sure_65 : nv_dc qX6_sure 65 (.iaload) 1 66 := ⟨by decide +kernel, rfl⟩
theorem dX6_sure_66 : nv_diload qX6_sure 66 3 67 := Or.inr ⟨3, rfl, by decide +kernel, rfl⟩
theorem dX6_sure_67 : nv_dc qX6_sure 67 (.invokestatic 265) 3 70 := ⟨by decide +kernel, rfl⟩
theorem dX6_sure_70 : nv_dif qX6_sure 70 .eq 76 73 := ⟨6, by decide +kernel, by decide, rfl⟩
theorem dX6_sure_73 : nv_dc qX6_sure 73 (.iinc 5 1) 3 76 := ⟨by decide +kernel, rfl⟩
theorem dX6_sure_76 : nv_dc qX6_sure 76 (.iinc 6 1) 3 79 := ⟨by decide +kernel, rfl⟩
theorem dX6_sure_79 : nv_dgo qX6_sure 79 52 := ⟨(-27), by decide +kernel, by decide⟩
theorem dX6_sure_82 : nv_diload qX6_sure 82 5 84 := Or.inl ⟨by decide +kernel, rfl⟩
theorem dX6_sure_84 : nv_dif qX6_sure 84 .ne 89 87 := ⟨5, by decide +kernel, by decide, rfl⟩
theorem dX6_sure_87 : nv_dk qX6_sure 87 0 88 := Or.inl ⟨0, ⟨by decide +kernel, rfl⟩, by decide⟩
theorem dX6_sure_88 : decode qX6_sure.2.1 88 = .ok (.ireturn, 1) := by decide +kernel
theorem dX6_sure_89 : nv_diload qX6_sure 89 5 91 := Or.inl ⟨by decide +kernel, rfl⟩
theorem dX6_sure_91 : nv_diload qX6_sure 91 4 93 := Or.inl ⟨by decide +kernel, rfl⟩
theorem dX6_sure_93 : nv_dic qX6_sure 93 .ne 100 96 := ⟨7, by decide +kernel, by decide, rfl⟩
theorem dX6_sure_96 : nv_dk qX6_sure 96 2 97 := Or.inl ⟨2, ⟨by decide +kernel, rfl⟩, by decide⟩
theorem dX6_sure_97 : nv_dgo qX6_sure 97 101 := ⟨4, by decide +kernel, by decide⟩
theorem dX6_sure_100 : nv_dk qX6_sure 100 1 101 := Or.inl ⟨1, ⟨by decide +kernel, rfl⟩, by decide⟩
theorem dX6_sure_101 : decode qX6_sure.2.1 101 = .ok (.ireturn, 1) := by decide +kernel
def fc_sure_52 (h : nv_Hp) (x3 : Int32) (x4 : Int32)  : Nat → Int32 → Int32 → Option (Int32 × nv_Hp)
  | 0, _, _ => none
  | n + 1, x5, x6 => (if x4 ≤ x6 then (if x5 = 0 then some (0, h) else (if x5 = x4 then some (2, h) else some (1, h))) else (if nv_inb x6 64 = true then ((fc_sure_52 h x3 x4 n) (if (fc_hasBit (h 12 x6.toNatClampNeg) x3) = true then (x5 + 1) else x5) (x6 + 1)) else none))
set_option maxHeartbeats 2000000 in
theorem tc_sure_52 (G : nv_G) (h : nv_Hp) (x3 : Int32) (x4 : Int32)  : ∀ (n : Nat) (x5 : Int32) (x6 : Int32) (o1 o2 : Option Value) (r : Int32 × nv_Hp), fc_sure_52 h x3 x4 n x5 x6 = some r → nv_E G 6 qX6_sure 52 [some (.ref 0), o1, o2, some (.int x3), some (.int x4), some (.int x5), some (.int x6)] [] (nv_s h) (some (.int r.1), nv_s r.2) := by
  intro n
  induction n with
  | zero =>
    intro x5 x6 o1 o2 r hf
    rw [fc_sure_52] at hf
    cases hf
  | succ n ih =>
    intro x5 x6 o1 o2 r hf
    rw [fc_sure_52] at hf
    refine nv_iL dX6_sure_52 rfl ?_
    refine nv_iL dX6_sure_54 rfl ?_
    refine nv_icge dX6_sure_56 (fun c1 => ?_) (fun c1 => ?_)
    · replace hf := nv_ip c1 hf
      refine nv_iL dX6_sure_82 rfl ?_
      refine nv_ifne dX6_sure_84 (fun c2 => ?_) (fun c2 => ?_)
      · replace hf := nv_ip c2 hf
        refine nv_k dX6_sure_87 ?_
        obtain rfl := Option.some.inj hf
        exact nv_ireturnI dX6_sure_88 rfl
      · replace hf := nv_in c2 hf
        refine nv_iL dX6_sure_89 rfl ?_
        refine nv_iL dX6_sure_91 rfl ?_
        refine nv_icne dX6_sure_93 (fun c3 => ?_) (fun c3 => ?_)
        · replace hf := nv_ip c3 hf
          refine nv_k dX6_sure_96 ?_
          refine nv_goto dX6_sure_97 ?_
          obtain rfl := Option.some.inj hf
          exact nv_ireturnI dX6_sure_101 rfl
        · replace hf := nv_in c3 hf
          refine nv_k dX6_sure_100 ?_
          obtain rfl := Option.some.inj hf
          exact nv_ireturnI dX6_sure_101 rfl
    · replace hf := nv_in c1 hf
      refine nv_aL dX6_sure_59 rfl ?_
      refine nv_tR lf_X6_61 dX6_sure_60 ko_0 rfl ?_
      refine nv_iL dX6_sure_63 rfl ?_
      obtain ⟨g4, hf⟩ := nv_gd hf
      refine nv_aI dX6_sure_65 ka_12 g4 rfl ?_
      refine nv_iL dX6_sure_66 rfl ?_
      refine nv_cSi (tc_hasBit G h (h 12 x6.toNatClampNeg) x3) dX6_sure_67 lm_X6_265 y_qX6_hasBit rfl (by decide) rfl (Nat.le_of_ble_eq_true rfl) ?_
      refine nv_ifeqB dX6_sure_70 (fun c5 => ?_) (fun c5 => ?_)
      · try simp only [if_pos c5] at hf
        refine nv_inc dX6_sure_73 rfl (v := 1) (by decide) (by decide) rfl rfl ?_
        refine nv_inc dX6_sure_76 rfl (v := 1) (by decide) (by decide) rfl rfl ?_
        refine nv_goto dX6_sure_79 ?_
        exact ih _ _ _ _ _ hf
      · try simp only [if_neg c5] at hf
        refine nv_inc dX6_sure_76 rfl (v := 1) (by decide) (by decide) rfl rfl ?_
        refine nv_goto dX6_sure_79 ?_
        exact ih _ _ _ _ _ hf
def fc_sure (h : nv_Hp) (x1 : Int32) (x2 : Int32) (x3 : Int32) : Option (Int32 × nv_Hp) := (if (fc_isLaw x1) = true then (if (fc_isBargain h x2) = true then (if (fc_isPerson x3) = true then (if nv_inb x1 2 = true then (if nv_inb x2 10 = true then (Option.bind (fc_tryWays h ((59 + 3 * x1.toNatClampNeg) + 2) (37 + x2.toNatClampNeg)) fun q6 => (fc_sure_52 q6.2 x3 q6.1 nv_fu 0 0)) else none) else none) else some ((-2), h)) else some ((-2), h)) else some ((-2), h))
set_option maxHeartbeats 2000000 in
theorem tc_sure (G : nv_G) (h : nv_Hp) (x1 : Int32) (x2 : Int32) (x3 : Int32) {r : Int32 × nv_Hp} (hf : (fc_sure h x1 x2 x3) = some r) : nv_Mt G 6 qX6_sure [.ref 0, .int x1, .int x2, .int x3] (nv_s h) (some (.int r.1), nv_s r.2) := by
  refine nv_of (by decide +kernel) (fun ad => Nat.le_of_ble_eq_true rfl) (Nat.le_refl _) (Nat.le_of_ble_eq_true rfl) ?_
  show nv_E G 6 qX6_sure 0 [some (.ref 0), some (.int x1), some (.int x2), some (.int x3), none, none, none] [] (nv_s h) (some (.int r.1), nv_s r.2)
  unfold fc_sure at hf
  refine nv_iL dX6_sure_0 rfl ?_
  refine nv_cSi (tc_isLaw G h x1) dX6_sure_1 lm_X6_217 y_qX6_isLaw rfl (by decide) rfl (Nat.le_of_ble_eq_true rfl) ?_
  refine nv_ifeqB dX6_sure_4 (fun c1 => ?_) (fun c1 => ?_)
  · replace hf := nv_ip c1 hf
    refine nv_aL dX6_sure_7 rfl ?_
    refine nv_iL dX6_sure_8 rfl ?_
    refine nv_cVi (tc_isBargain G h x2) dX6_sure_9 lm_X6_201 y_qX6_isBargain ko_0 rfl rfl (by decide) rfl (Nat.le_of_ble_eq_true rfl) ?_
    refine nv_ifeqB dX6_sure_12 (fun c2 => ?_) (fun c2 => ?_)
    · replace hf := nv_ip c2 hf
      refine nv_iL dX6_sure_15 rfl ?_
      refine nv_cSi (tc_isPerson G h x3) dX6_sure_16 lm_X6_70 y_qX6_isPerson rfl (by decide) rfl (Nat.le_of_ble_eq_true rfl) ?_
      refine nv_ifneB dX6_sure_19 (fun c3 => ?_) (fun c3 => ?_)
      · replace hf := nv_ip c3 hf
        refine nv_aL dX6_sure_25 rfl ?_
        refine nv_aL dX6_sure_26 rfl ?_
        refine nv_tR lf_X6_39 dX6_sure_27 ko_0 rfl ?_
        refine nv_iL dX6_sure_30 rfl ?_
        obtain ⟨g4, hf⟩ := nv_gd hf
        refine nv_aR dX6_sure_31 kr_6 ⟨_, rfl⟩ g4 rfl ?_
        refine nv_gR (t := ((59 + 3 * x1.toNatClampNeg) + 2)) lf_X6_231 dX6_sure_32 (nv_o3 g4) rfl ?_
        refine nv_aL dX6_sure_35 rfl ?_
        refine nv_tR lf_X6_27 dX6_sure_36 ko_0 rfl ?_
        refine nv_iL dX6_sure_39 rfl ?_
        obtain ⟨g5, hf⟩ := nv_gd hf
        refine nv_aR dX6_sure_40 kr_4 ⟨_, rfl⟩ g5 (nv_q1 _ _) ?_
        obtain ⟨q6, hq6, hf⟩ := nv_bd hf
        refine nv_cVi (tc_tryWays G h ((59 + 3 * x1.toNatClampNeg) + 2) (nv_o3w (nv_o3 g4)) (37 + x2.toNatClampNeg) (nv_o2 g5) hq6) dX6_sure_41 lm_X6_330 y_qX6_tryWays ko_0 rfl rfl (by decide) rfl (Nat.le_of_ble_eq_true rfl) ?_
        refine nv_iS dX6_sure_44 (by decide) rfl rfl ?_
        refine nv_k dX6_sure_46 ?_
        refine nv_iS dX6_sure_47 (by decide) rfl rfl ?_
        refine nv_k dX6_sure_49 ?_
        refine nv_iS dX6_sure_50 (by decide) rfl rfl ?_
        exact tc_sure_52 G _ _ _ _ _ _ _ _ _ hf
      · replace hf := nv_in c3 hf
        refine nv_k dX6_sure_22 ?_
        obtain rfl := Option.some.inj hf
        exact nv_ireturnI dX6_sure_24 rfl
    · replace hf := nv_in c2 hf
      refine nv_k dX6_sure_22 ?_
      obtain rfl := Option.some.inj hf
      exact nv_ireturnI dX6_sure_24 rfl
  · replace hf := nv_in c1 hf
    refine nv_k dX6_sure_22 ?_
    obtain rfl := Option.some.inj hf
    exact nv_ireturnI dX6_sure_24 rfl
/-! WhoseName.isTurnedBy -/
theorem dX6_isTurnedBy_0 : nv_dk qX6_isTurnedBy 0 0 1 := Or.inl ⟨0, ⟨by decide +kernel, rfl⟩, by decide⟩
theorem dX6_isTurnedBy_1 : nv_distore qX6_isTurnedBy 1 3 2 := Or.inr ⟨3, rfl, by decide +kernel, rfl⟩
theorem dX6_isTurnedBy_2 : nv_diload qX6_isTurnedBy 2 3 3 := Or.inr ⟨3, rfl, by decide +kernel, rfl⟩
theorem dX6_isTurnedBy_3 : nv_diload qX6_isTurnedBy 3 2 4 := Or.inr ⟨2, rfl, by decide +kernel, rfl⟩
theorem dX6_isTurnedBy_4 : nv_dic qX6_isTurnedBy 4 .ge 51 7 := ⟨47, by decide +kernel, by decide, rfl⟩
theorem dX6_isTurnedBy_7 : nv_diload qX6_isTurnedBy 7 3 8 := Or.inr ⟨3, rfl, by decide +kernel, rfl⟩
theorem dX6_isTurnedBy_8 : nv_dk qX6_isTurnedBy 8 64 10 := Or.inr (Or.inl ⟨64, ⟨by decide +kernel, rfl⟩, by decide⟩)
theorem dX6_isTurnedBy_10 : nv_dic qX6_isTurnedBy 10 .ge 51 13 := ⟨41, by decide +kernel, by decide, rfl⟩
theorem dX6_isTurnedBy_13 : nv_diload qX6_isTurnedBy 13 3 14 := Or.inr ⟨3, rfl, by decide +kernel, rfl⟩
theorem dX6_isTurnedBy_14 : nv_dk qX6_isTurnedBy 14 1 15 := Or.inl ⟨1, ⟨by decide +kernel, rfl⟩, by decide⟩
theorem dX6_isTurnedBy_15 : nv_diload qX6_isTurnedBy 15 1 16 := Or.inr ⟨1, rfl, by decide +kernel, rfl⟩
theorem dX6_isTurnedBy_16 : nv_dc qX6_isTurnedBy 16 (.ishl) 1 17 := ⟨by decide +kernel, rfl⟩
theorem dX6_isTurnedBy_17 : nv_dc qX6_isTurnedBy 17 (.ixor) 1 18 := ⟨by decide +kernel, rfl⟩
theorem dX6_isTurnedBy_18 : nv_distore qX6_isTurnedBy 18 4 20 := Or.inl ⟨by decide +kernel, rfl⟩
theorem dX6_isTurnedBy_20 : nv_diload qX6_isTurnedBy 20 4 22 := Or.inl ⟨by decide +kernel, rfl⟩
theorem dX6_isTurnedBy_22 : nv_dk qX6_isTurnedBy 22 64 24 := Or.inr (Or.inl ⟨64, ⟨by decide +kernel, rfl⟩, by decide⟩)
theorem dX6_isTurnedBy_24 : nv_dic qX6_isTurnedBy 24 .ge 45 27 := ⟨21, by decide +kernel, by decide, rfl⟩
theorem dX6_isTurnedBy_27 : nv_daload qX6_isTurnedBy 27 0 28 := Or.inr ⟨0, rfl, by decide +kernel, rfl⟩
theorem dX6_isTurnedBy_28 : nv_dc qX6_isTurnedBy 28 (.getfield 61) 3 31 := ⟨by decide +kernel, rfl⟩
theorem dX6_isTurnedBy_31 : nv_diload qX6_isTurnedBy 31 3 32 := Or.inr ⟨3, rfl, by decide +kernel, rfl⟩
theorem dX6_isTurnedBy_32 : nv_dc qX6_isTurnedBy 32 (.iaload) 1 33 := ⟨by decide +kernel, rfl⟩
theorem dX6_isTurnedBy_33 : nv_daload qX6_isTurnedBy 33 0 34 := Or.inr ⟨0, rfl, by decide +kernel, rfl⟩
theorem dX6_isTurnedBy_34 : nv_dc qX6_isTurnedBy 34 (.getfield 61) 3 37 := ⟨by decide +kernel, rfl⟩
theorem dX6_isTurnedBy_37 : nv_diload qX6_isTurnedBy 37 4 39 := Or.inl ⟨by decide +kernel, rfl⟩
theorem dX6_isTurnedBy_39 : nv_dc qX6_isTurnedBy 39 (.iaload) 1 40 := ⟨by decide +kernel, rfl⟩
theorem dX6_isTurnedBy_40 : nv_dic qX6_isTurnedBy 40 .eq 45 43 := ⟨5, by decide +kernel, by decide, rfl⟩
theorem dX6_isTurnedBy_43 : nv_dk qX6_isTurnedBy 43 1 44 := Or.inl ⟨1, ⟨by decide +kernel, rfl⟩, by decide⟩
theorem dX6_isTurnedBy_44 : decode qX6_isTurnedBy.2.1 44 = .ok (.ireturn, 1) := by decide +kernel
theorem dX6_isTurnedBy_45 : nv_dc qX6_isTurnedBy 45 (.iinc 3 1) 3 48 := ⟨by decide +kernel, rfl⟩
theorem dX6_isTurnedBy_48 : nv_dgo qX6_isTurnedBy 48 2 := ⟨(-46), by decide +kernel, by decide⟩
theorem dX6_isTurnedBy_51 : nv_dk qX6_isTurnedBy 51 0 52 := Or.inl ⟨0, ⟨by decide +kernel, rfl⟩, by decide⟩
theorem dX6_isTurnedBy_52 : decode qX6_isTurnedBy.2.1 52 = .ok (.ireturn, 1) := by decide +kernel
def fc_isTurnedBy_2 (h : nv_Hp) (x1 : Int32) (x2 : Int32)  : Nat → Int32 → Option (Bool)
  | 0, _ => none
  | n + 1, x3 => (if x2 ≤ x3 then some false else (if 64 ≤ x3 then some false else (nv_lt ((x3 ^^^ (1 <<< (x1 &&& 31)))) fun v3 => (if 64 ≤ v3 then ((fc_isTurnedBy_2 h x1 x2 n) (x3 + 1)) else (if nv_inb x3 64 = true then (if nv_inb v3 64 = true then (if (h 12 x3.toNatClampNeg) = (h 12 v3.toNatClampNeg) then ((fc_isTurnedBy_2 h x1 x2 n) (x3 + 1)) else some true) else none) else none)))))
set_option maxHeartbeats 2000000 in
theorem tc_isTurnedBy_2 (G : nv_G) (h : nv_Hp) (x1 : Int32) (x2 : Int32)  : ∀ (n : Nat) (x3 : Int32) (o4 : Option Value) (r : Bool), fc_isTurnedBy_2 h x1 x2 n x3 = some r → nv_E G 0 qX6_isTurnedBy 2 [some (.ref 0), some (.int x1), some (.int x2), some (.int x3), o4] [] (nv_s h) (some (.int (nv_bi r)), nv_s h) := by
  intro n
  induction n with
  | zero =>
    intro x3 o4 r hf
    rw [fc_isTurnedBy_2] at hf
    cases hf
  | succ n ih =>
    intro x3 o4 r hf
    rw [fc_isTurnedBy_2] at hf
    refine nv_iL dX6_isTurnedBy_2 rfl ?_
    refine nv_iL dX6_isTurnedBy_3 rfl ?_
    refine nv_icge dX6_isTurnedBy_4 (fun c1 => ?_) (fun c1 => ?_)
    · replace hf := nv_ip c1 hf
      refine nv_k dX6_isTurnedBy_51 ?_
      obtain rfl := Option.some.inj hf
      exact nv_ireturnB (b := false) dX6_isTurnedBy_52 rfl
    · replace hf := nv_in c1 hf
      refine nv_iL dX6_isTurnedBy_7 rfl ?_
      refine nv_k dX6_isTurnedBy_8 ?_
      refine nv_icge dX6_isTurnedBy_10 (fun c2 => ?_) (fun c2 => ?_)
      · replace hf := nv_ip c2 hf
        refine nv_k dX6_isTurnedBy_51 ?_
        obtain rfl := Option.some.inj hf
        exact nv_ireturnB (b := false) dX6_isTurnedBy_52 rfl
      · replace hf := nv_in c2 hf
        refine nv_iL dX6_isTurnedBy_13 rfl ?_
        refine nv_k dX6_isTurnedBy_14 ?_
        refine nv_iL dX6_isTurnedBy_15 rfl ?_
        refine nv_ishl dX6_isTurnedBy_16 ?_
        refine nv_ixor dX6_isTurnedBy_17 ?_
        obtain ⟨v3, ev3, hf⟩ := nv_ltX hf
        rw [ev3]
        clear ev3
        refine nv_iS dX6_isTurnedBy_18 (by decide) rfl rfl ?_
        refine nv_iL dX6_isTurnedBy_20 rfl ?_
        refine nv_k dX6_isTurnedBy_22 ?_
        refine nv_icge dX6_isTurnedBy_24 (fun c4 => ?_) (fun c4 => ?_)
        · replace hf := nv_ip c4 hf
          refine nv_inc dX6_isTurnedBy_45 rfl (v := 1) (by decide) (by decide) rfl rfl ?_
          refine nv_goto dX6_isTurnedBy_48 ?_
          exact ih _ _ _ hf
        · replace hf := nv_in c4 hf
          refine nv_aL dX6_isTurnedBy_27 rfl ?_
          refine nv_tR lf_X6_61 dX6_isTurnedBy_28 ko_0 rfl ?_
          refine nv_iL dX6_isTurnedBy_31 rfl ?_
          obtain ⟨g5, hf⟩ := nv_gd hf
          refine nv_aI dX6_isTurnedBy_32 ka_12 g5 rfl ?_
          refine nv_aL dX6_isTurnedBy_33 rfl ?_
          refine nv_tR lf_X6_61 dX6_isTurnedBy_34 ko_0 rfl ?_
          refine nv_iL dX6_isTurnedBy_37 rfl ?_
          obtain ⟨g6, hf⟩ := nv_gd hf
          refine nv_aI dX6_isTurnedBy_39 ka_12 g6 rfl ?_
          refine nv_iceq dX6_isTurnedBy_40 (fun c7 => ?_) (fun c7 => ?_)
          · replace hf := nv_ip c7 hf
            refine nv_inc dX6_isTurnedBy_45 rfl (v := 1) (by decide) (by decide) rfl rfl ?_
            refine nv_goto dX6_isTurnedBy_48 ?_
            exact ih _ _ _ hf
          · replace hf := nv_in c7 hf
            refine nv_k dX6_isTurnedBy_43 ?_
            obtain rfl := Option.some.inj hf
            exact nv_ireturnB (b := true) dX6_isTurnedBy_44 rfl
def fc_isTurnedBy (h : nv_Hp) (x1 : Int32) (x2 : Int32) : Option (Bool) := (fc_isTurnedBy_2 h x1 x2 nv_fu 0)
set_option maxHeartbeats 2000000 in
theorem tc_isTurnedBy (G : nv_G) (h : nv_Hp) (x1 : Int32) (x2 : Int32) {r : Bool} (hf : (fc_isTurnedBy h x1 x2) = some r) : nv_Mt G 0 qX6_isTurnedBy [.ref 0, .int x1, .int x2] (nv_s h) (some (.int (nv_bi r)), nv_s h) := by
  refine nv_of (by decide +kernel) (fun ad => Nat.le_of_ble_eq_true rfl) (Nat.le_refl _) (Nat.le_of_ble_eq_true rfl) ?_
  show nv_E G 0 qX6_isTurnedBy 0 [some (.ref 0), some (.int x1), some (.int x2), none, none] [] (nv_s h) (some (.int (nv_bi r)), nv_s h)
  unfold fc_isTurnedBy at hf
  refine nv_k dX6_isTurnedBy_0 ?_
  refine nv_iS dX6_isTurnedBy_1 (by decide) rfl rfl ?_
  exact tc_isTurnedBy_2 G _ _ _ _ _ _ _ hf
/-! WhoseName.hangs -/
theorem dX6_hangs_0 : nv_diload qX6_hangs 0 1 1 := Or.inr ⟨1, rfl, by decide +kernel, rfl⟩
theorem dX6_hangs_1 : nv_dc qX6_hangs 1 (.invokestatic 217) 3 4 := ⟨by decide +kernel, rfl⟩
theorem dX6_hangs_4 : nv_dif qX6_hangs 4 .eq 23 7 := ⟨19, by decide +kernel, by decide, rfl⟩
theorem dX6_hangs_7 : nv_daload qX6_hangs 7 0 8 := Or.inr ⟨0, rfl, by decide +kernel, rfl⟩
theorem dX6_hangs_8 : nv_diload qX6_hangs 8 2 9 := Or.inr ⟨2, rfl, by decide +kernel, rfl⟩
theorem dX6_hangs_9 : nv_dc qX6_hangs 9 (.invokevirtual 201) 3 12 := ⟨by decide +kernel, rfl⟩
theorem dX6_hangs_12 : nv_dif qX6_hangs 12 .eq 23 15 := ⟨11, by decide +kernel, by decide, rfl⟩
theorem dX6_hangs_15 : nv_daload qX6_hangs 15 0 16 := Or.inr ⟨0, rfl, by decide +kernel, rfl⟩
theorem dX6_hangs_16 : nv_diload qX6_hangs 16 3 17 := Or.inr ⟨3, rfl, by decide +kernel, rfl⟩
theorem dX6_hangs_17 : nv_dc qX6_hangs 17 (.invokevirtual 153) 3 20 := ⟨by decide +kernel, rfl⟩
theorem dX6_hangs_20 : nv_dif qX6_hangs 20 .ne 26 23 := ⟨6, by decide +kernel, by decide, rfl⟩
theorem dX6_hangs_23 : nv_dk qX6_hangs 23 (-2) 25 := Or.inr (Or.inl ⟨(-2), ⟨by decide +kernel, rfl⟩, by decide⟩)
theorem dX6_hangs_25 : decode qX6_hangs.2.1 25 = .ok (.ireturn, 1) := by decide +kernel
theorem dX6_hangs_26 : nv_daload qX6_hangs 26 0 27 := Or.inr ⟨0, rfl, by decide +kernel, rfl⟩
theorem dX6_hangs_27 : nv_dc qX6_hangs 27 (.invokevirtual 334) 3 30 := ⟨by decide +kernel, rfl⟩
theorem dX6_hangs_30 : nv_dk qX6_hangs 30 0 31 := Or.inl ⟨0, ⟨by decide +kernel, rfl⟩, by decide⟩
theorem dX6_hangs_31 : nv_distore qX6_hangs 31 4 33 := Or.inl ⟨by decide +kernel, rfl⟩
theorem dX6_hangs_33 : nv_diload qX6_hangs 33 4 35 := Or.inl ⟨by decide +kernel, rfl⟩
theorem dX6_hangs_35 : nv_daload qX6_hangs 35 0 36 := Or.inr ⟨0, rfl, by decide +kernel, rfl⟩
theorem dX6_hangs_36 : nv_dc qX6_hangs 36 (.getfield 337) 3 39 := ⟨by decide +kernel, rfl⟩
theorem dX6_hangs_39 : nv_dic qX6_hangs 39 .ge 97 42 := ⟨58, by decide +kernel, by decide, rfl⟩
theorem dX6_hangs_42 : nv_daload qX6_hangs 42 0 43 := Or.inr ⟨0, rfl, by decide +kernel, rfl⟩
theorem dX6_hangs_43 : nv_dc qX6_hangs 43 (.getfield 58) 3 46 := ⟨by decide +kernel, rfl⟩
theorem dX6_hangs_46 : nv_diload qX6_hangs 46 4 48 := Or.inl ⟨by decide +kernel, rfl⟩
theorem dX6_hangs_48 : nv_dc qX6_hangs 48 (.iaload) 1 49 := ⟨by decide +kernel, rfl⟩
theorem dX6_hangs_49 : nv_diload qX6_hangs 49 3 50 := Or.inr ⟨3, rfl, by decide +kernel, rfl⟩
theorem dX6_hangs_50 : nv_dic qX6_hangs 50 .ne 91 53 := ⟨41, by decide +kernel, by decide, rfl⟩
theorem dX6_hangs_53 : nv_daload qX6_hangs 53 0 54 := Or.inr ⟨0, rfl, by decide +kernel, rfl⟩
theorem dX6_hangs_54 : nv_daload qX6_hangs 54 0 55 := Or.inr ⟨0, rfl, by decide +kernel, rfl⟩
theorem dX6_hangs_55 : nv_dc qX6_hangs 55 (.getfield 39) 3 58 := ⟨by decide +kernel, rfl⟩
theorem dX6_hangs_58 : nv_diload qX6_hangs 58 1 59 := Or.inr ⟨1, rfl, by decide +kernel, rfl⟩
theorem dX6_hangs_59 : nv_dc qX6_hangs 59 (.aaload) 1 60 := ⟨by decide +kernel, rfl⟩
theorem dX6_hangs_60 : nv_dc qX6_hangs 60 (.getfield 231) 3 63 := ⟨by decide +kernel, rfl⟩
theorem dX6_hangs_63 : nv_daload qX6_hangs 63 0 64 := Or.inr ⟨0, rfl, by decide +kernel, rfl⟩
theorem dX6_hangs_64 : nv_dc qX6_hangs 64 (.getfield 27) 3 67 := ⟨by decide +kernel, rfl⟩
theorem dX6_hangs_67 : nv_diload qX6_hangs 67 2 68 := Or.inr ⟨2, rfl, by decide +kernel, rfl⟩
theorem dX6_hangs_68 : nv_dc qX6_hangs 68 (.aaload) 1 69 := ⟨by decide +kernel, rfl⟩
theorem dX6_hangs_69 : nv_dc qX6_hangs 69 (.invokevirtual 330) 3 72 := ⟨by decide +kernel, rfl⟩
theorem dX6_hangs_72 : nv_distore qX6_hangs 72 5 74 := Or.inl ⟨by decide +kernel, rfl⟩
theorem dX6_hangs_74 : nv_daload qX6_hangs 74 0 75 := Or.inr ⟨0, rfl, by decide +kernel, rfl⟩
theorem dX6_hangs_75 : nv_diload qX6_hangs 75 4 77 := Or.inl ⟨by decide +kernel, rfl⟩
theorem dX6_hangs_77 : nv_diload qX6_hangs 77 5 79 := Or.inl ⟨by decide +kernel, rfl⟩
theorem dX6_hangs_79 : nv_dc qX6_hangs 79 (.invokevirtual 340) 3 82 := ⟨by decide +kernel, rfl⟩
theorem dX6_hangs_82 : nv_dif qX6_hangs 82 .eq 89 85 := ⟨7, by decide +kernel, by decide, rfl⟩
theorem dX6_hangs_85 : nv_dk qX6_hangs 85 1 86 := Or.inl ⟨1, ⟨by decide +kernel, rfl⟩, by decide⟩
theorem dX6_hangs_86 : nv_dgo qX6_hangs 86 90 := ⟨4, by decide +kernel, by decide⟩
theorem dX6_hangs_89 : nv_dk qX6_hangs 89 0 90 := Or.inl ⟨0, ⟨by decide +kernel, rfl⟩, by decide⟩
theorem dX6_hangs_90 : decode qX6_hangs.2.1 90 = .ok (.ireturn, 1) := by decide +kernel
theorem dX6_hangs_91 : nv_dc qX6_hangs 91 (.iinc 4 1) 3 94 := ⟨by decide +kernel, rfl⟩
theorem dX6_hangs_94 : nv_dgo qX6_hangs 94 33 := ⟨(-61), by decide +kernel, by decide⟩
theorem dX6_hangs_97 : nv_dk qX6_hangs 97 (-2) 99 := Or.inr (Or.inl ⟨(-2), ⟨by decide +kernel, rfl⟩, by decide⟩)
theorem dX6_hangs_99 : decode qX6_hangs.2.1 99 = .ok (.ireturn, 1) := by decide +kernel
def fc_hangs_33 (h : nv_Hp) (x1 : Int32) (x2 : Int32) (x3 : Int32)  : Nat → Int32 → Option (Int32 × nv_Hp)
  | 0, _ => none
  | n + 1, x4 => (if (h 0 17) ≤ x4 then some ((-2), h) else (if nv_inb x4 6 = true then (if (h 11 x4.toNatClampNeg) = x3 then (if nv_inb x1 2 = true then (if nv_inb x2 10 = true then (Option.bind (fc_tryWays h ((59 + 3 * x1.toNatClampNeg) + 2) (37 + x2.toNatClampNeg)) fun q6 => (Option.bind (fc_isTurnedBy q6.2 x4 q6.1) fun q7 => (if q7 = true then some (1, q6.2) else some (0, q6.2)))) else none) else none) else ((fc_hangs_33 h x1 x2 x3 n) (x4 + 1))) else none))
set_option maxHeartbeats 2000000 in
theorem tc_hangs_33 (G : nv_G) (h : nv_Hp) (x1 : Int32) (x2 : Int32) (x3 : Int32)  : ∀ (n : Nat) (x4 : Int32) (o5 : Option Value) (r : Int32 × nv_Hp), fc_hangs_33 h x1 x2 x3 n x4 = some r → nv_E G 6 qX6_hangs 33 [some (.ref 0), some (.int x1), some (.int x2), some (.int x3), some (.int x4), o5] [] (nv_s h) (some (.int r.1), nv_s r.2) := by
  intro n
  induction n with
  | zero =>
    intro x4 o5 r hf
    rw [fc_hangs_33] at hf
    cases hf
  | succ n ih =>
    intro x4 o5 r hf
    rw [fc_hangs_33] at hf
    refine nv_iL dX6_hangs_33 rfl ?_
    refine nv_aL dX6_hangs_35 rfl ?_
    refine nv_tI lf_X6_337 dX6_hangs_36 ko_0 rfl ?_
    refine nv_icge dX6_hangs_39 (fun c1 => ?_) (fun c1 => ?_)
    · replace hf := nv_ip c1 hf
      refine nv_k dX6_hangs_97 ?_
      obtain rfl := Option.some.inj hf
      exact nv_ireturnI dX6_hangs_99 rfl
    · replace hf := nv_in c1 hf
      refine nv_aL dX6_hangs_42 rfl ?_
      refine nv_tR lf_X6_58 dX6_hangs_43 ko_0 rfl ?_
      refine nv_iL dX6_hangs_46 rfl ?_
      obtain ⟨g2, hf⟩ := nv_gd hf
      refine nv_aI dX6_hangs_48 ka_11 g2 rfl ?_
      refine nv_iL dX6_hangs_49 rfl ?_
      refine nv_icne dX6_hangs_50 (fun c3 => ?_) (fun c3 => ?_)
      · replace hf := nv_ip c3 hf
        refine nv_aL dX6_hangs_53 rfl ?_
        refine nv_aL dX6_hangs_54 rfl ?_
        refine nv_tR lf_X6_39 dX6_hangs_55 ko_0 rfl ?_
        refine nv_iL dX6_hangs_58 rfl ?_
        obtain ⟨g4, hf⟩ := nv_gd hf
        refine nv_aR dX6_hangs_59 kr_6 ⟨_, rfl⟩ g4 rfl ?_
        refine nv_gR (t := ((59 + 3 * x1.toNatClampNeg) + 2)) lf_X6_231 dX6_hangs_60 (nv_o3 g4) rfl ?_
        refine nv_aL dX6_hangs_63 rfl ?_
        refine nv_tR lf_X6_27 dX6_hangs_64 ko_0 rfl ?_
        refine nv_iL dX6_hangs_67 rfl ?_
        obtain ⟨g5, hf⟩ := nv_gd hf
        refine nv_aR dX6_hangs_68 kr_4 ⟨_, rfl⟩ g5 (nv_q1 _ _) ?_
        obtain ⟨q6, hq6, hf⟩ := nv_bd hf
        refine nv_cVi (tc_tryWays G h ((59 + 3 * x1.toNatClampNeg) + 2) (nv_o3w (nv_o3 g4)) (37 + x2.toNatClampNeg) (nv_o2 g5) hq6) dX6_hangs_69 lm_X6_330 y_qX6_tryWays ko_0 rfl rfl (by decide) rfl (Nat.le_of_ble_eq_true rfl) ?_
        refine nv_iS dX6_hangs_72 (by decide) rfl rfl ?_
        refine nv_aL dX6_hangs_74 rfl ?_
        refine nv_iL dX6_hangs_75 rfl ?_
        refine nv_iL dX6_hangs_77 rfl ?_
        obtain ⟨q7, hq7, hf⟩ := nv_bd hf
        refine nv_cVi (tc_isTurnedBy G q6.2 x4 q6.1 hq7) dX6_hangs_79 lm_X6_340 y_qX6_isTurnedBy ko_0 rfl rfl (by decide) rfl (Nat.le_of_ble_eq_true rfl) ?_
        refine nv_ifeqB dX6_hangs_82 (fun c8 => ?_) (fun c8 => ?_)
        · replace hf := nv_ip c8 hf
          refine nv_k dX6_hangs_85 ?_
          refine nv_goto dX6_hangs_86 ?_
          obtain rfl := Option.some.inj hf
          exact nv_ireturnI dX6_hangs_90 rfl
        · replace hf := nv_in c8 hf
          refine nv_k dX6_hangs_89 ?_
          obtain rfl := Option.some.inj hf
          exact nv_ireturnI dX6_hangs_90 rfl
      · replace hf := nv_in c3 hf
        refine nv_inc dX6_hangs_91 rfl (v := 1) (by decide) (by decide) rfl rfl ?_
        refine nv_goto dX6_hangs_94 ?_
        exact ih _ _ _ hf
def fc_hangs (h : nv_Hp) (x1 : Int32) (x2 : Int32) (x3 : Int32) : Option (Int32 × nv_Hp) := (if (fc_isLaw x1) = true then (if (fc_isBargain h x2) = true then (if (fc_isBack h x3) = true then (Option.bind (fc_findOpenBacks h) fun q4 => (fc_hangs_33 q4 x1 x2 x3 nv_fu 0)) else some ((-2), h)) else some ((-2), h)) else some ((-2), h))
set_option maxHeartbeats 2000000 in
theorem tc_hangs (G : nv_G) (h : nv_Hp) (x1 : Int32) (x2 : Int32) (x3 : Int32) {r : Int32 × nv_Hp} (hf : (fc_hangs h x1 x2 x3) = some r) : nv_Mt G 6 qX6_hangs [.ref 0, .int x1, .int x2, .int x3] (nv_s h) (some (.int r.1), nv_s r.2) := by
  refine nv_of (by decide +kernel) (fun ad => Nat.le_of_ble_eq_true rfl) (Nat.le_refl _) (Nat.le_of_ble_eq_true rfl) ?_
  show nv_E G 6 qX6_hangs 0 [some (.ref 0), some (.int x1), some (.int x2), some (.int x3), none, none] [] (nv_s h) (some (.int r.1), nv_s r.2)
  unfold fc_hangs at hf
  refine nv_iL dX6_hangs_0 rfl ?_
  refine nv_cSi (tc_isLaw G h x1) dX6_hangs_1 lm_X6_217 y_qX6_isLaw rfl (by decide) rfl (Nat.le_of_ble_eq_true rfl) ?_
  refine nv_ifeqB dX6_hangs_4 (fun c1 => ?_) (fun c1 => ?_)
  · replace hf := nv_ip c1 hf
    refine nv_aL dX6_hangs_7 rfl ?_
    refine nv_iL dX6_hangs_8 rfl ?_
    refine nv_cVi (tc_isBargain G h x2) dX6_hangs_9 lm_X6_201 y_qX6_isBargain ko_0 rfl rfl (by decide) rfl (Nat.le_of_ble_eq_true rfl) ?_
    refine nv_ifeqB dX6_hangs_12 (fun c2 => ?_) (fun c2 => ?_)
    · replace hf := nv_ip c2 hf
      refine nv_aL dX6_hangs_15 rfl ?_
      refine nv_iL dX6_hangs_16 rfl ?_
      refine nv_cVi (tc_isBack G h x3) dX6_hangs_17 lm_X6_153 y_qX6_isBack ko_0 rfl rfl (by decide) rfl (Nat.le_of_ble_eq_true rfl) ?_
      refine nv_ifneB dX6_hangs_20 (fun c3 => ?_) (fun c3 => ?_)
      · replace hf := nv_ip c3 hf
        refine nv_aL dX6_hangs_26 rfl ?_
        obtain ⟨q4, hq4, hf⟩ := nv_bd hf
        refine nv_cVv (tc_findOpenBacks G h hq4) dX6_hangs_27 lm_X6_334 y_qX6_findOpenBacks ko_0 rfl rfl (by decide) rfl (Nat.le_of_ble_eq_true rfl) ?_
        refine nv_k dX6_hangs_30 ?_
        refine nv_iS dX6_hangs_31 (by decide) rfl rfl ?_
        exact tc_hangs_33 G _ _ _ _ _ _ _ _ hf
      · replace hf := nv_in c3 hf
        refine nv_k dX6_hangs_23 ?_
        obtain rfl := Option.some.inj hf
        exact nv_ireturnI dX6_hangs_25 rfl
    · replace hf := nv_in c2 hf
      refine nv_k dX6_hangs_23 ?_
      obtain rfl := Option.some.inj hf
      exact nv_ireturnI dX6_hangs_25 rfl
  · replace hf := nv_in c1 hf
    refine nv_k dX6_hangs_23 ?_
    obtain rfl := Option.some.inj hf
    exact nv_ireturnI dX6_hangs_25 rfl
/-! WhoseName.wanted -/
theorem dX6_wanted_0 : nv_diload qX6_wanted 0 1 1 := Or.inr ⟨1, rfl, by decide +kernel, rfl⟩
theorem dX6_wanted_1 : nv_dc qX6_wanted 1 (.invokestatic 217) 3 4 := ⟨by decide +kernel, rfl⟩
theorem dX6_wanted_4 : nv_dif qX6_wanted 4 .eq 15 7 := ⟨11, by decide +kernel, by decide, rfl⟩
theorem dX6_wanted_7 : nv_daload qX6_wanted 7 0 8 := Or.inr ⟨0, rfl, by decide +kernel, rfl⟩
theorem dX6_wanted_8 : nv_diload qX6_wanted 8 2 9 := Or.inr ⟨2, rfl, by decide +kernel, rfl⟩
theorem dX6_wanted_9 : nv_dc qX6_wanted 9 (.invokevirtual 201) 3 12 := ⟨by decide +kernel, rfl⟩
theorem dX6_wanted_12 : nv_dif qX6_wanted 12 .ne 18 15 := ⟨6, by decide +kernel, by decide, rfl⟩
theorem dX6_wanted_15 : nv_dk qX6_wanted 15 (-2) 17 := Or.inr (Or.inl ⟨(-2), ⟨by decide +kernel, rfl⟩, by decide⟩)
theorem dX6_wanted_17 : decode qX6_wanted.2.1 17 = .ok (.ireturn, 1) := by decide +kernel
theorem dX6_wanted_18 : nv_daload qX6_wanted 18 0 19 := Or.inr ⟨0, rfl, by decide +kernel, rfl⟩
theorem dX6_wanted_19 : nv_daload qX6_wanted 19 0 20 := Or.inr ⟨0, rfl, by decide +kernel, rfl⟩
theorem dX6_wanted_20 : nv_dc qX6_wanted 20 (.getfield 39) 3 23 := ⟨by decide +kernel, rfl⟩
theorem dX6_wanted_23 : nv_diload qX6_wanted 23 1 24 := Or.inr ⟨1, rfl, by decide +kernel, rfl⟩
theorem dX6_wanted_24 : nv_dc qX6_wanted 24 (.aaload) 1 25 := ⟨by decide +kernel, rfl⟩
theorem dX6_wanted_25 : nv_dc qX6_wanted 25 (.getfield 231) 3 28 := ⟨by decide +kernel, rfl⟩
theorem dX6_wanted_28 : nv_daload qX6_wanted 28 0 29 := Or.inr ⟨0, rfl, by decide +kernel, rfl⟩
theorem dX6_wanted_29 : nv_dc qX6_wanted 29 (.getfield 27) 3 32 := ⟨by decide +kernel, rfl⟩
theorem dX6_wanted_32 : nv_diload qX6_wanted 32 2 33 := Or.inr ⟨2, rfl, by decide +kernel, rfl⟩
theorem dX6_wanted_33 : nv_dc qX6_wanted 33 (.aaload) 1 34 := ⟨by decide +kernel, rfl⟩
theorem dX6_wanted_34 : nv_dc qX6_wanted 34 (.invokevirtual 330) 3 37 := ⟨by decide +kernel, rfl⟩
theorem dX6_wanted_37 : nv_distore qX6_wanted 37 3 38 := Or.inr ⟨3, rfl, by decide +kernel, rfl⟩
theorem dX6_wanted_38 : nv_dk qX6_wanted 38 0 39 := Or.inl ⟨0, ⟨by decide +kernel, rfl⟩, by decide⟩
theorem dX6_wanted_39 : nv_distore qX6_wanted 39 4 41 := Or.inl ⟨by decide +kernel, rfl⟩
theorem dX6_wanted_41 : nv_dk qX6_wanted 41 0 42 := Or.inl ⟨0, ⟨by decide +kernel, rfl⟩, by decide⟩
theorem dX6_wanted_42 : nv_distore qX6_wanted 42 5 44 := Or.inl ⟨by decide +kernel, rfl⟩
theorem dX6_wanted_44 : nv_diload qX6_wanted 44 5 46 := Or.inl ⟨by decide +kernel, rfl⟩
theorem dX6_wanted_46 : nv_daload qX6_wanted 46 0 47 := Or.inr ⟨0, rfl, by decide +kernel, rfl⟩
theorem dX6_wanted_47 : nv_dc qX6_wanted 47 (.getfield 337) 3 50 := ⟨by decide +kernel, rfl⟩
theorem dX6_wanted_50 : nv_dic qX6_wanted 50 .ge 83 53 := ⟨33, by decide +kernel, by decide, rfl⟩
theorem dX6_wanted_53 : nv_daload qX6_wanted 53 0 54 := Or.inr ⟨0, rfl, by decide +kernel, rfl⟩
theorem dX6_wanted_54 : nv_diload qX6_wanted 54 5 56 := Or.inl ⟨by decide +kernel, rfl⟩
theorem dX6_wanted_56 : nv_diload qX6_wanted 56 3 57 := Or.inr ⟨3, rfl, by decide +kernel, rfl⟩
theorem dX6_wanted_57 : nv_dc qX6_wanted 57 (.invokevirtual 340) 3 60 := ⟨by decide +kernel, rfl⟩
theorem dX6_wanted_60 : nv_dif qX6_wanted 60 .eq 77 63 := ⟨17, by decide +kernel, by decide, rfl⟩
theorem dX6_wanted_63 : nv_diload qX6_wanted 63 4 65 := Or.inl ⟨by decide +kernel, rfl⟩
theorem dX6_wanted_65 : nv_dk qX6_wanted 65 1 66 := Or.inl ⟨1, ⟨by decide +kernel, rfl⟩, by decide⟩
theorem dX6_wanted_66 : nv_daload qX6_wanted 66 0 67 := Or.inr ⟨0, rfl, by decide +kernel, rfl⟩
theorem dX6_wanted_67 : nv_dc qX6_wanted 67 (.getfield 58) 3 70 := ⟨by decide +kernel, rfl⟩
theorem dX6_wanted_70 : nv_diload qX6_wanted 70 5 72 := Or.inl ⟨by decide +kernel, rfl⟩
theorem dX6_wanted_72 : nv_dc qX6_wanted 72 (.iaload) 1 73 := ⟨by decide +kernel, rfl⟩
theorem dX6_wanted_73 : nv_dc qX6_wanted 73 (.ishl) 1 74 := ⟨by decide +kernel, rfl⟩
theorem dX6_wanted_74 : nv_dc qX6_wanted 74 (.ior) 1 75 := ⟨by decide +kernel, rfl⟩
theorem dX6_wanted_75 : nv_distore qX6_wanted 75 4 77 := Or.inl ⟨by decide +kernel, rfl⟩
theorem dX6_wanted_77 : nv_dc qX6_wanted 77 (.iinc 5 1) 3 80 := ⟨by decide +kernel, rfl⟩
theorem dX6_wanted_80 : nv_dgo qX6_wanted 80 44 := ⟨(-36), by decide +kernel, by decide⟩
theorem dX6_wanted_83 : nv_diload qX6_wanted 83 4 85 := Or.inl ⟨by decide +kernel, rfl⟩
theorem dX6_wanted_85 : decode qX6_wanted.2.1 85 = .ok (.ireturn, 1) := by decide +kernel
def fc_wanted_44 (h : nv_Hp) (x3 : Int32)  : Nat → Int32 → Int32 → Option (Int32 × nv_Hp)
  | 0, _, _ => none
  | n + 1, x4, x5 => (if (h 0 17) ≤ x5 then some (x4, h) else (Option.bind (fc_isTurnedBy h x5 x3) fun q2 => (Option.bind ((if q2 = true then (if nv_inb x5 6 = true then some ((x4 ||| (1 <<< ((h 11 x5.toNatClampNeg) &&& 31)))) else none) else some (x4)) : Option (Int32)) fun u4 => (fc_wanted_44 h x3 n) u4 (x5 + 1))))
set_option maxHeartbeats 2000000 in
theorem tc_wanted_44 (G : nv_G) (h : nv_Hp) (x3 : Int32)  : ∀ (n : Nat) (x4 : Int32) (x5 : Int32) (o1 o2 : Option Value) (r : Int32 × nv_Hp), fc_wanted_44 h x3 n x4 x5 = some r → nv_E G 6 qX6_wanted 44 [some (.ref 0), o1, o2, some (.int x3), some (.int x4), some (.int x5)] [] (nv_s h) (some (.int r.1), nv_s r.2) := by
  intro n
  induction n with
  | zero =>
    intro x4 x5 o1 o2 r hf
    rw [fc_wanted_44] at hf
    cases hf
  | succ n ih =>
    intro x4 x5 o1 o2 r hf
    rw [fc_wanted_44] at hf
    refine nv_iL dX6_wanted_44 rfl ?_
    refine nv_aL dX6_wanted_46 rfl ?_
    refine nv_tI lf_X6_337 dX6_wanted_47 ko_0 rfl ?_
    refine nv_icge dX6_wanted_50 (fun c1 => ?_) (fun c1 => ?_)
    · replace hf := nv_ip c1 hf
      refine nv_iL dX6_wanted_83 rfl ?_
      obtain rfl := Option.some.inj hf
      exact nv_ireturnI dX6_wanted_85 rfl
    · replace hf := nv_in c1 hf
      refine nv_aL dX6_wanted_53 rfl ?_
      refine nv_iL dX6_wanted_54 rfl ?_
      refine nv_iL dX6_wanted_56 rfl ?_
      obtain ⟨q2, hq2, hf⟩ := nv_bd hf
      refine nv_cVi (tc_isTurnedBy G h x5 x3 hq2) dX6_wanted_57 lm_X6_340 y_qX6_isTurnedBy ko_0 rfl rfl (by decide) rfl (Nat.le_of_ble_eq_true rfl) ?_
      refine nv_ifeqB dX6_wanted_60 (fun c5 => ?_) (fun c5 => ?_)
      · try simp only [if_pos c5, Option.bind_some] at hf
        refine nv_iL dX6_wanted_63 rfl ?_
        refine nv_k dX6_wanted_65 ?_
        refine nv_aL dX6_wanted_66 rfl ?_
        refine nv_tR lf_X6_58 dX6_wanted_67 ko_0 rfl ?_
        refine nv_iL dX6_wanted_70 rfl ?_
        have g6 : nv_inb x5 6 = true := by
          by_cases g6 : nv_inb x5 6 = true
          · exact g6
          · exfalso; simp [if_neg g6] at hf
        simp only [if_pos g6, Option.bind_some] at hf
        refine nv_aI dX6_wanted_72 ka_11 g6 rfl ?_
        refine nv_ishl dX6_wanted_73 ?_
        refine nv_ior dX6_wanted_74 ?_
        refine nv_iS dX6_wanted_75 (by decide) rfl rfl ?_
        refine nv_inc dX6_wanted_77 rfl (v := 1) (by decide) (by decide) rfl rfl ?_
        refine nv_goto dX6_wanted_80 ?_
        exact ih _ _ _ _ _ hf
      · try simp only [if_neg c5, Option.bind_some] at hf
        refine nv_inc dX6_wanted_77 rfl (v := 1) (by decide) (by decide) rfl rfl ?_
        refine nv_goto dX6_wanted_80 ?_
        exact ih _ _ _ _ _ hf
def fc_wanted (h : nv_Hp) (x1 : Int32) (x2 : Int32) : Option (Int32 × nv_Hp) := (if (fc_isLaw x1) = true then (if (fc_isBargain h x2) = true then (if nv_inb x1 2 = true then (if nv_inb x2 10 = true then (Option.bind (fc_tryWays h ((59 + 3 * x1.toNatClampNeg) + 2) (37 + x2.toNatClampNeg)) fun q5 => (fc_wanted_44 q5.2 q5.1 nv_fu 0 0)) else none) else none) else some ((-2), h)) else some ((-2), h))
set_option maxHeartbeats 2000000 in
theorem tc_wanted (G : nv_G) (h : nv_Hp) (x1 : Int32) (x2 : Int32) {r : Int32 × nv_Hp} (hf : (fc_wanted h x1 x2) = some r) : nv_Mt G 6 qX6_wanted [.ref 0, .int x1, .int x2] (nv_s h) (some (.int r.1), nv_s r.2) := by
  refine nv_of (by decide +kernel) (fun ad => Nat.le_of_ble_eq_true rfl) (Nat.le_refl _) (Nat.le_of_ble_eq_true rfl) ?_
  show nv_E G 6 qX6_wanted 0 [some (.ref 0), some (.int x1), some (.int x2), none, none, none] [] (nv_s h) (some (.int r.1), nv_s r.2)
  unfold fc_wanted at hf
  refine nv_iL dX6_wanted_0 rfl ?_
  refine nv_cSi (tc_isLaw G h x1) dX6_wanted_1 lm_X6_217 y_qX6_isLaw rfl (by decide) rfl (Nat.le_of_ble_eq_true rfl) ?_
  refine nv_ifeqB dX6_wanted_4 (fun c1 => ?_) (fun c1 => ?_)
  · replace hf := nv_ip c1 hf
    refine nv_aL dX6_wanted_7 rfl ?_
    refine nv_iL dX6_wanted_8 rfl ?_
    refine nv_cVi (tc_isBargain G h x2) dX6_wanted_9 lm_X6_201 y_qX6_isBargain ko_0 rfl rfl (by decide) rfl (Nat.le_of_ble_eq_true rfl) ?_
    refine nv_ifneB dX6_wanted_12 (fun c2 => ?_) (fun c2 => ?_)
    · replace hf := nv_ip c2 hf
      refine nv_aL dX6_wanted_18 rfl ?_
      refine nv_aL dX6_wanted_19 rfl ?_
      refine nv_tR lf_X6_39 dX6_wanted_20 ko_0 rfl ?_
      refine nv_iL dX6_wanted_23 rfl ?_
      obtain ⟨g3, hf⟩ := nv_gd hf
      refine nv_aR dX6_wanted_24 kr_6 ⟨_, rfl⟩ g3 rfl ?_
      refine nv_gR (t := ((59 + 3 * x1.toNatClampNeg) + 2)) lf_X6_231 dX6_wanted_25 (nv_o3 g3) rfl ?_
      refine nv_aL dX6_wanted_28 rfl ?_
      refine nv_tR lf_X6_27 dX6_wanted_29 ko_0 rfl ?_
      refine nv_iL dX6_wanted_32 rfl ?_
      obtain ⟨g4, hf⟩ := nv_gd hf
      refine nv_aR dX6_wanted_33 kr_4 ⟨_, rfl⟩ g4 (nv_q1 _ _) ?_
      obtain ⟨q5, hq5, hf⟩ := nv_bd hf
      refine nv_cVi (tc_tryWays G h ((59 + 3 * x1.toNatClampNeg) + 2) (nv_o3w (nv_o3 g3)) (37 + x2.toNatClampNeg) (nv_o2 g4) hq5) dX6_wanted_34 lm_X6_330 y_qX6_tryWays ko_0 rfl rfl (by decide) rfl (Nat.le_of_ble_eq_true rfl) ?_
      refine nv_iS dX6_wanted_37 (by decide) rfl rfl ?_
      refine nv_k dX6_wanted_38 ?_
      refine nv_iS dX6_wanted_39 (by decide) rfl rfl ?_
      refine nv_k dX6_wanted_41 ?_
      refine nv_iS dX6_wanted_42 (by decide) rfl rfl ?_
      exact tc_wanted_44 G _ _ _ _ _ _ _ _ hf
    · replace hf := nv_in c2 hf
      refine nv_k dX6_wanted_15 ?_
      obtain rfl := Option.some.inj hf
      exact nv_ireturnI dX6_wanted_17 rfl
  · replace hf := nv_in c1 hf
    refine nv_k dX6_wanted_15 ?_
    obtain rfl := Option.some.inj hf
    exact nv_ireturnI dX6_wanted_17 rfl
/-! WhoseName.unlikeLetters -/
theorem dX6_unlikeLetters_0 : nv_dk qX6_unlikeLetters 0 0 1 := Or.inl ⟨0, ⟨by decide +kernel, rfl⟩, by decide⟩
theorem dX6_unlikeLetters_1 : nv_distore qX6_unlikeLetters 1 1 2 := Or.inr ⟨1, rfl, by decide +kernel, rfl⟩
theorem dX6_unlikeLetters_2 : nv_dk qX6_unlikeLetters 2 0 3 := Or.inl ⟨0, ⟨by decide +kernel, rfl⟩, by decide⟩
theorem dX6_unlikeLetters_3 : nv_distore qX6_unlikeLetters 3 2 4 := Or.inr ⟨2, rfl, by decide +kernel, rfl⟩
theorem dX6_unlikeLetters_4 : nv_diload qX6_unlikeLetters 4 2 5 := Or.inr ⟨2, rfl, by decide +kernel, rfl⟩
theorem dX6_unlikeLetters_5 : nv_dk qX6_unlikeLetters 5 9 7 := Or.inr (Or.inl ⟨9, ⟨by decide +kernel, rfl⟩, by decide⟩)
theorem dX6_unlikeLetters_7 : nv_dic qX6_unlikeLetters 7 .ge 47 10 := ⟨40, by decide +kernel, by decide, rfl⟩
theorem dX6_unlikeLetters_10 : nv_daload qX6_unlikeLetters 10 0 11 := Or.inr ⟨0, rfl, by decide +kernel, rfl⟩
theorem dX6_unlikeLetters_11 : nv_dc qX6_unlikeLetters 11 (.getfield 39) 3 14 := ⟨by decide +kernel, rfl⟩
theorem dX6_unlikeLetters_14 : nv_dk qX6_unlikeLetters 14 0 15 := Or.inl ⟨0, ⟨by decide +kernel, rfl⟩, by decide⟩
theorem dX6_unlikeLetters_15 : nv_dc qX6_unlikeLetters 15 (.aaload) 1 16 := ⟨by decide +kernel, rfl⟩
theorem dX6_unlikeLetters_16 : nv_dc qX6_unlikeLetters 16 (.getfield 231) 3 19 := ⟨by decide +kernel, rfl⟩
theorem dX6_unlikeLetters_19 : nv_diload qX6_unlikeLetters 19 2 20 := Or.inr ⟨2, rfl, by decide +kernel, rfl⟩
theorem dX6_unlikeLetters_20 : nv_dc qX6_unlikeLetters 20 (.iaload) 1 21 := ⟨by decide +kernel, rfl⟩
theorem dX6_unlikeLetters_21 : nv_daload qX6_unlikeLetters 21 0 22 := Or.inr ⟨0, rfl, by decide +kernel, rfl⟩
theorem dX6_unlikeLetters_22 : nv_dc qX6_unlikeLetters 22 (.getfield 39) 3 25 := ⟨by decide +kernel, rfl⟩
theorem dX6_unlikeLetters_25 : nv_dk qX6_unlikeLetters 25 1 26 := Or.inl ⟨1, ⟨by decide +kernel, rfl⟩, by decide⟩
theorem dX6_unlikeLetters_26 : nv_dc qX6_unlikeLetters 26 (.aaload) 1 27 := ⟨by decide +kernel, rfl⟩
theorem dX6_unlikeLetters_27 : nv_dc qX6_unlikeLetters 27 (.getfield 231) 3 30 := ⟨by decide +kernel, rfl⟩
theorem dX6_unlikeLetters_30 : nv_diload qX6_unlikeLetters 30 2 31 := Or.inr ⟨2, rfl, by decide +kernel, rfl⟩
theorem dX6_unlikeLetters_31 : nv_dc qX6_unlikeLetters 31 (.iaload) 1 32 := ⟨by decide +kernel, rfl⟩
theorem dX6_unlikeLetters_32 : nv_dic qX6_unlikeLetters 32 .eq 41 35 := ⟨9, by decide +kernel, by decide, rfl⟩
theorem dX6_unlikeLetters_35 : nv_diload qX6_unlikeLetters 35 1 36 := Or.inr ⟨1, rfl, by decide +kernel, rfl⟩
theorem dX6_unlikeLetters_36 : nv_dk qX6_unlikeLetters 36 1 37 := Or.inl ⟨1, ⟨by decide +kernel, rfl⟩, by decide⟩
theorem dX6_unlikeLetters_37 : nv_diload qX6_unlikeLetters 37 2 38 := Or.inr ⟨2, rfl, by decide +kernel, rfl⟩
theorem dX6_unlikeLetters_38 : nv_dc qX6_unlikeLetters 38 (.ishl) 1 39 := ⟨by decide +kernel, rfl⟩
theorem dX6_unlikeLetters_39 : nv_dc qX6_unlikeLetters 39 (.ior) 1 40 := ⟨by decide +kernel, rfl⟩
theorem dX6_unlikeLetters_40 : nv_distore qX6_unlikeLetters 40 1 41 := Or.inr ⟨1, rfl, by decide +kernel, rfl⟩
theorem dX6_unlikeLetters_41 : nv_dc qX6_unlikeLetters 41 (.iinc 2 1) 3 44 := ⟨by decide +kernel, rfl⟩
theorem dX6_unlikeLetters_44 : nv_dgo qX6_unlikeLetters 44 4 := ⟨(-40), by decide +kernel, by decide⟩
theorem dX6_unlikeLetters_47 : nv_diload qX6_unlikeLetters 47 1 48 := Or.inr ⟨1, rfl, by decide +kernel, rfl⟩
theorem dX6_unlikeLetters_48 : decode qX6_unlikeLetters.2.1 48 = .ok (.ireturn, 1) := by decide +kernel
def fc_unlikeLetters_4 (h : nv_Hp)   : Nat → Int32 → Int32 → Option (Int32)
  | 0, _, _ => none
  | n + 1, x1, x2 => (if 9 ≤ x2 then some x1 else (if nv_inb x2 9 = true then ((fc_unlikeLetters_4 h n) (if (h 61 x2.toNatClampNeg) = (h 64 x2.toNatClampNeg) then x1 else (x1 ||| (1 <<< (x2 &&& 31)))) (x2 + 1)) else none))
set_option maxHeartbeats 2000000 in
theorem tc_unlikeLetters_4 (G : nv_G) (h : nv_Hp)   : ∀ (n : Nat) (x1 : Int32) (x2 : Int32) (r : Int32), fc_unlikeLetters_4 h n x1 x2 = some r → nv_E G 0 qX6_unlikeLetters 4 [some (.ref 0), some (.int x1), some (.int x2)] [] (nv_s h) (some (.int r), nv_s h) := by
  intro n
  induction n with
  | zero =>
    intro x1 x2 r hf
    rw [fc_unlikeLetters_4] at hf
    cases hf
  | succ n ih =>
    intro x1 x2 r hf
    rw [fc_unlikeLetters_4] at hf
    refine nv_iL dX6_unlikeLetters_4 rfl ?_
    refine nv_k dX6_unlikeLetters_5 ?_
    refine nv_icge dX6_unlikeLetters_7 (fun c1 => ?_) (fun c1 => ?_)
    · replace hf := nv_ip c1 hf
      refine nv_iL dX6_unlikeLetters_47 rfl ?_
      obtain rfl := Option.some.inj hf
      exact nv_ireturnI dX6_unlikeLetters_48 rfl
    · replace hf := nv_in c1 hf
      refine nv_aL dX6_unlikeLetters_10 rfl ?_
      refine nv_tR lf_X6_39 dX6_unlikeLetters_11 ko_0 rfl ?_
      refine nv_k dX6_unlikeLetters_14 ?_
      refine nv_aR (q := 59) dX6_unlikeLetters_15 kr_6 ⟨_, rfl⟩ (by decide) (by decide) ?_
      refine nv_gR (t := 61) lf_X6_231 dX6_unlikeLetters_16 (nv_o3j 0 (by decide)) rfl ?_
      refine nv_iL dX6_unlikeLetters_19 rfl ?_
      obtain ⟨g2, hf⟩ := nv_gd hf
      refine nv_aI dX6_unlikeLetters_20 (nv_o3w (nv_o3j 0 (by decide))) g2 rfl ?_
      refine nv_aL dX6_unlikeLetters_21 rfl ?_
      refine nv_tR lf_X6_39 dX6_unlikeLetters_22 ko_0 rfl ?_
      refine nv_k dX6_unlikeLetters_25 ?_
      refine nv_aR (q := 62) dX6_unlikeLetters_26 kr_6 ⟨_, rfl⟩ (by decide) (by decide) ?_
      refine nv_gR (t := 64) lf_X6_231 dX6_unlikeLetters_27 (nv_o3j 1 (by decide)) rfl ?_
      refine nv_iL dX6_unlikeLetters_30 rfl ?_
      refine nv_aI dX6_unlikeLetters_31 (nv_o3w (nv_o3j 1 (by decide))) g2 rfl ?_
      refine nv_iceq dX6_unlikeLetters_32 (fun c3 => ?_) (fun c3 => ?_)
      · try simp only [if_pos c3] at hf
        refine nv_inc dX6_unlikeLetters_41 rfl (v := 1) (by decide) (by decide) rfl rfl ?_
        refine nv_goto dX6_unlikeLetters_44 ?_
        exact ih _ _ _ hf
      · try simp only [if_neg c3] at hf
        refine nv_iL dX6_unlikeLetters_35 rfl ?_
        refine nv_k dX6_unlikeLetters_36 ?_
        refine nv_iL dX6_unlikeLetters_37 rfl ?_
        refine nv_ishl dX6_unlikeLetters_38 ?_
        refine nv_ior dX6_unlikeLetters_39 ?_
        refine nv_iS dX6_unlikeLetters_40 (by decide) rfl rfl ?_
        refine nv_inc dX6_unlikeLetters_41 rfl (v := 1) (by decide) (by decide) rfl rfl ?_
        refine nv_goto dX6_unlikeLetters_44 ?_
        exact ih _ _ _ hf
def fc_unlikeLetters (h : nv_Hp)  : Option (Int32) := (fc_unlikeLetters_4 h nv_fu 0 0)
set_option maxHeartbeats 2000000 in
theorem tc_unlikeLetters (G : nv_G) (h : nv_Hp)  {r : Int32} (hf : (fc_unlikeLetters h) = some r) : nv_Mt G 0 qX6_unlikeLetters [.ref 0] (nv_s h) (some (.int r), nv_s h) := by
  refine nv_of (by decide +kernel) (fun ad => Nat.le_of_ble_eq_true rfl) (Nat.le_refl _) (Nat.le_of_ble_eq_true rfl) ?_
  show nv_E G 0 qX6_unlikeLetters 0 [some (.ref 0), none, none] [] (nv_s h) (some (.int r), nv_s h)
  unfold fc_unlikeLetters at hf
  refine nv_k dX6_unlikeLetters_0 ?_
  refine nv_iS dX6_unlikeLetters_1 (by decide) rfl rfl ?_
  refine nv_k dX6_unlikeLetters_2 ?_
  refine nv_iS dX6_unlikeLetters_3 (by decide) rfl rfl ?_
  exact tc_unlikeLetters_4 G _ _ _ _ _ hf
/-! java/lang/Integer.bitCount -/
theorem dJ6_bitCount_0 : nv_diload qJ6_bitCount 0 0 1 := Or.inr ⟨0, rfl, by decide +kernel, rfl⟩
theorem dJ6_bitCount_1 : nv_diload qJ6_bitCount 1 0 2 := Or.inr ⟨0, rfl, by decide +kernel, rfl⟩
theorem dJ6_bitCount_2 : nv_dk qJ6_bitCount 2 1 3 := Or.inl ⟨1, ⟨by decide +kernel, rfl⟩, by decide⟩
theorem dJ6_bitCount_3 : nv_dc qJ6_bitCount 3 (.iushr) 1 4 := ⟨by decide +kernel, rfl⟩
theorem dJ6_bitCount_4 : nv_dc qJ6_bitCount 4 (.ldc_w 265) 3 7 := ⟨by decide +kernel, rfl⟩
theorem dJ6_bitCount_7 : nv_dc qJ6_bitCount 7 (.iand) 1 8 := ⟨by decide +kernel, rfl⟩
theorem dJ6_bitCount_8 : nv_dc qJ6_bitCount 8 (.isub) 1 9 := ⟨by decide +kernel, rfl⟩
theorem dJ6_bitCount_9 : nv_distore qJ6_bitCount 9 0 10 := Or.inr ⟨0, rfl, by decide +kernel, rfl⟩
theorem dJ6_bitCount_10 : nv_diload qJ6_bitCount 10 0 11 := Or.inr ⟨0, rfl, by decide +kernel, rfl⟩
theorem dJ6_bitCount_11 : nv_dc qJ6_bitCount 11 (.ldc_w 266) 3 14 := ⟨by decide +kernel, rfl⟩
theorem dJ6_bitCount_14 : nv_dc qJ6_bitCount 14 (.iand) 1 15 := ⟨by decide +kernel, rfl⟩
theorem dJ6_bitCount_15 : nv_diload qJ6_bitCount 15 0 16 := Or.inr ⟨0, rfl, by decide +kernel, rfl⟩
theorem dJ6_bitCount_16 : nv_dk qJ6_bitCount 16 2 17 := Or.inl ⟨2, ⟨by decide +kernel, rfl⟩, by decide⟩
theorem dJ6_bitCount_17 : nv_dc qJ6_bitCount 17 (.iushr) 1 18 := ⟨by decide +kernel, rfl⟩
theorem dJ6_bitCount_18 : nv_dc qJ6_bitCount 18 (.ldc_w 266) 3 21 := ⟨by decide +kernel, rfl⟩
theorem dJ6_bitCount_21 : nv_dc qJ6_bitCount 21 (.iand) 1 22 := ⟨by decide +kernel, rfl⟩
theorem dJ6_bitCount_22 : nv_dc qJ6_bitCount 22 (.iadd) 1 23 := ⟨by decide +kernel, rfl⟩
theorem dJ6_bitCount_23 : nv_distore qJ6_bitCount 23 0 24 := Or.inr ⟨0, rfl, by decide +kernel, rfl⟩
theorem dJ6_bitCount_24 : nv_diload qJ6_bitCount 24 0 25 := Or.inr ⟨0, rfl, by decide +kernel, rfl⟩
theorem dJ6_bitCount_25 : nv_diload qJ6_bitCount 25 0 26 := Or.inr ⟨0, rfl, by decide +kernel, rfl⟩
theorem dJ6_bitCount_26 : nv_dk qJ6_bitCount 26 4 27 := Or.inl ⟨4, ⟨by decide +kernel, rfl⟩, by decide⟩
theorem dJ6_bitCount_27 : nv_dc qJ6_bitCount 27 (.iushr) 1 28 := ⟨by decide +kernel, rfl⟩
theorem dJ6_bitCount_28 : nv_dc qJ6_bitCount 28 (.iadd) 1 29 := ⟨by decide +kernel, rfl⟩
theorem dJ6_bitCount_29 : nv_dc qJ6_bitCount 29 (.ldc_w 267) 3 32 := ⟨by decide +kernel, rfl⟩
theorem dJ6_bitCount_32 : nv_dc qJ6_bitCount 32 (.iand) 1 33 := ⟨by decide +kernel, rfl⟩
theorem dJ6_bitCount_33 : nv_distore qJ6_bitCount 33 0 34 := Or.inr ⟨0, rfl, by decide +kernel, rfl⟩
theorem dJ6_bitCount_34 : nv_diload qJ6_bitCount 34 0 35 := Or.inr ⟨0, rfl, by decide +kernel, rfl⟩
theorem dJ6_bitCount_35 : nv_diload qJ6_bitCount 35 0 36 := Or.inr ⟨0, rfl, by decide +kernel, rfl⟩
theorem dJ6_bitCount_36 : nv_dk qJ6_bitCount 36 8 38 := Or.inr (Or.inl ⟨8, ⟨by decide +kernel, rfl⟩, by decide⟩)
theorem dJ6_bitCount_38 : nv_dc qJ6_bitCount 38 (.iushr) 1 39 := ⟨by decide +kernel, rfl⟩
theorem dJ6_bitCount_39 : nv_dc qJ6_bitCount 39 (.iadd) 1 40 := ⟨by decide +kernel, rfl⟩
theorem dJ6_bitCount_40 : nv_distore qJ6_bitCount 40 0 41 := Or.inr ⟨0, rfl, by decide +kernel, rfl⟩
theorem dJ6_bitCount_41 : nv_diload qJ6_bitCount 41 0 42 := Or.inr ⟨0, rfl, by decide +kernel, rfl⟩
theorem dJ6_bitCount_42 : nv_diload qJ6_bitCount 42 0 43 := Or.inr ⟨0, rfl, by decide +kernel, rfl⟩
theorem dJ6_bitCount_43 : nv_dk qJ6_bitCount 43 16 45 := Or.inr (Or.inl ⟨16, ⟨by decide +kernel, rfl⟩, by decide⟩)
theorem dJ6_bitCount_45 : nv_dc qJ6_bitCount 45 (.iushr) 1 46 := ⟨by decide +kernel, rfl⟩
theorem dJ6_bitCount_46 : nv_dc qJ6_bitCount 46 (.iadd) 1 47 := ⟨by decide +kernel, rfl⟩
theorem dJ6_bitCount_47 : nv_distore qJ6_bitCount 47 0 48 := Or.inr ⟨0, rfl, by decide +kernel, rfl⟩
theorem dJ6_bitCount_48 : nv_diload qJ6_bitCount 48 0 49 := Or.inr ⟨0, rfl, by decide +kernel, rfl⟩
theorem dJ6_bitCount_49 : nv_dk qJ6_bitCount 49 63 51 := Or.inr (Or.inl ⟨63, ⟨by decide +kernel, rfl⟩, by decide⟩)
theorem dJ6_bitCount_51 : nv_dc qJ6_bitCount 51 (.iand) 1 52 := ⟨by decide +kernel, rfl⟩
theorem dJ6_bitCount_52 : decode qJ6_bitCount.2.1 52 = .ok (.ireturn, 1) := by decide +kernel
def fj_bitCount (x0 : Int32) : Int32 := (nv_lt ((x0 - ((Int32.toUInt32 x0 >>> (Int32.toUInt32 1 &&& Int32.toUInt32 31)).toInt32 &&& 1431655765))) fun v1 => (nv_lt (((v1 &&& 858993459) + ((Int32.toUInt32 v1 >>> (Int32.toUInt32 2 &&& Int32.toUInt32 31)).toInt32 &&& 858993459))) fun v2 => (nv_lt (((v2 + (Int32.toUInt32 v2 >>> (Int32.toUInt32 4 &&& Int32.toUInt32 31)).toInt32) &&& 252645135)) fun v3 => (nv_lt ((v3 + (Int32.toUInt32 v3 >>> (Int32.toUInt32 8 &&& Int32.toUInt32 31)).toInt32)) fun v4 => (nv_lt ((v4 + (Int32.toUInt32 v4 >>> (Int32.toUInt32 16 &&& Int32.toUInt32 31)).toInt32)) fun v5 => (v5 &&& 63))))))
set_option maxHeartbeats 2000000 in
theorem tj_bitCount (G : nv_G) (h : nv_Hp) (x0 : Int32) : nv_Mt G 0 qJ6_bitCount [.int x0] (nv_s h) (some (.int (fj_bitCount x0)), nv_s h) := by
  refine nv_of (by decide +kernel) (fun ad => Nat.le_of_ble_eq_true rfl) (Nat.le_refl _) (Nat.le_of_ble_eq_true rfl) ?_
  show nv_E G 0 qJ6_bitCount 0 [some (.int x0)] [] (nv_s h) (some (.int (fj_bitCount x0)), nv_s h)
  generalize hf : (fj_bitCount x0) = r
  unfold fj_bitCount at hf
  refine nv_iL dJ6_bitCount_0 rfl ?_
  refine nv_iL dJ6_bitCount_1 rfl ?_
  refine nv_k dJ6_bitCount_2 ?_
  refine nv_iushr dJ6_bitCount_3 ?_
  refine nv_ldcw dJ6_bitCount_4 lc_J6_265 ?_
  refine nv_iand dJ6_bitCount_7 ?_
  refine nv_isub dJ6_bitCount_8 ?_
  obtain ⟨v1, ev1, hf⟩ := nv_ltX hf
  rw [ev1]
  clear ev1
  refine nv_iS dJ6_bitCount_9 (by decide) rfl rfl ?_
  refine nv_iL dJ6_bitCount_10 rfl ?_
  refine nv_ldcw dJ6_bitCount_11 lc_J6_266 ?_
  refine nv_iand dJ6_bitCount_14 ?_
  refine nv_iL dJ6_bitCount_15 rfl ?_
  refine nv_k dJ6_bitCount_16 ?_
  refine nv_iushr dJ6_bitCount_17 ?_
  refine nv_ldcw dJ6_bitCount_18 lc_J6_266 ?_
  refine nv_iand dJ6_bitCount_21 ?_
  refine nv_iadd dJ6_bitCount_22 ?_
  obtain ⟨v2, ev2, hf⟩ := nv_ltX hf
  rw [ev2]
  clear ev2
  refine nv_iS dJ6_bitCount_23 (by decide) rfl rfl ?_
  refine nv_iL dJ6_bitCount_24 rfl ?_
  refine nv_iL dJ6_bitCount_25 rfl ?_
  refine nv_k dJ6_bitCount_26 ?_
  refine nv_iushr dJ6_bitCount_27 ?_
  refine nv_iadd dJ6_bitCount_28 ?_
  refine nv_ldcw dJ6_bitCount_29 lc_J6_267 ?_
  refine nv_iand dJ6_bitCount_32 ?_
  obtain ⟨v3, ev3, hf⟩ := nv_ltX hf
  rw [ev3]
  clear ev3
  refine nv_iS dJ6_bitCount_33 (by decide) rfl rfl ?_
  refine nv_iL dJ6_bitCount_34 rfl ?_
  refine nv_iL dJ6_bitCount_35 rfl ?_
  refine nv_k dJ6_bitCount_36 ?_
  refine nv_iushr dJ6_bitCount_38 ?_
  refine nv_iadd dJ6_bitCount_39 ?_
  obtain ⟨v4, ev4, hf⟩ := nv_ltX hf
  rw [ev4]
  clear ev4
  refine nv_iS dJ6_bitCount_40 (by decide) rfl rfl ?_
  refine nv_iL dJ6_bitCount_41 rfl ?_
  refine nv_iL dJ6_bitCount_42 rfl ?_
  refine nv_k dJ6_bitCount_43 ?_
  refine nv_iushr dJ6_bitCount_45 ?_
  refine nv_iadd dJ6_bitCount_46 ?_
  obtain ⟨v5, ev5, hf⟩ := nv_ltX hf
  rw [ev5]
  clear ev5
  refine nv_iS dJ6_bitCount_47 (by decide) rfl rfl ?_
  refine nv_iL dJ6_bitCount_48 rfl ?_
  refine nv_k dJ6_bitCount_49 ?_
  refine nv_iand dJ6_bitCount_51 ?_
  subst hf
  exact nv_ireturnI dJ6_bitCount_52 rfl
/-! WhoseName.mixLaws -/
theorem dX6_mixLaws_0 : nv_dk qX6_mixLaws 0 0 1 := Or.inl ⟨0, ⟨by decide +kernel, rfl⟩, by decide⟩
theorem dX6_mixLaws_1 : nv_distore qX6_mixLaws 1 2 2 := Or.inr ⟨2, rfl, by decide +kernel, rfl⟩
theorem dX6_mixLaws_2 : nv_diload qX6_mixLaws 2 2 3 := Or.inr ⟨2, rfl, by decide +kernel, rfl⟩
theorem dX6_mixLaws_3 : nv_dk qX6_mixLaws 3 9 5 := Or.inr (Or.inl ⟨9, ⟨by decide +kernel, rfl⟩, by decide⟩)
theorem dX6_mixLaws_5 : nv_dic qX6_mixLaws 5 .ge 43 8 := ⟨38, by decide +kernel, by decide, rfl⟩
theorem dX6_mixLaws_8 : nv_daload qX6_mixLaws 8 0 9 := Or.inr ⟨0, rfl, by decide +kernel, rfl⟩
theorem dX6_mixLaws_9 : nv_dc qX6_mixLaws 9 (.getfield 55) 3 12 := ⟨by decide +kernel, rfl⟩
theorem dX6_mixLaws_12 : nv_diload qX6_mixLaws 12 2 13 := Or.inr ⟨2, rfl, by decide +kernel, rfl⟩
theorem dX6_mixLaws_13 : nv_daload qX6_mixLaws 13 0 14 := Or.inr ⟨0, rfl, by decide +kernel, rfl⟩
theorem dX6_mixLaws_14 : nv_dc qX6_mixLaws 14 (.getfield 39) 3 17 := ⟨by decide +kernel, rfl⟩
theorem dX6_mixLaws_17 : nv_diload qX6_mixLaws 17 1 18 := Or.inr ⟨1, rfl, by decide +kernel, rfl⟩
theorem dX6_mixLaws_18 : nv_diload qX6_mixLaws 18 2 19 := Or.inr ⟨2, rfl, by decide +kernel, rfl⟩
theorem dX6_mixLaws_19 : nv_dc qX6_mixLaws 19 (.invokestatic 265) 3 22 := ⟨by decide +kernel, rfl⟩
theorem dX6_mixLaws_22 : nv_dif qX6_mixLaws 22 .eq 29 25 := ⟨7, by decide +kernel, by decide, rfl⟩
theorem dX6_mixLaws_25 : nv_dk qX6_mixLaws 25 1 26 := Or.inl ⟨1, ⟨by decide +kernel, rfl⟩, by decide⟩
theorem dX6_mixLaws_26 : nv_dgo qX6_mixLaws 26 30 := ⟨4, by decide +kernel, by decide⟩
theorem dX6_mixLaws_29 : nv_dk qX6_mixLaws 29 0 30 := Or.inl ⟨0, ⟨by decide +kernel, rfl⟩, by decide⟩
theorem dX6_mixLaws_30 : nv_dc qX6_mixLaws 30 (.aaload) 1 31 := ⟨by decide +kernel, rfl⟩
theorem dX6_mixLaws_31 : nv_dc qX6_mixLaws 31 (.getfield 231) 3 34 := ⟨by decide +kernel, rfl⟩
theorem dX6_mixLaws_34 : nv_diload qX6_mixLaws 34 2 35 := Or.inr ⟨2, rfl, by decide +kernel, rfl⟩
theorem dX6_mixLaws_35 : nv_dc qX6_mixLaws 35 (.iaload) 1 36 := ⟨by decide +kernel, rfl⟩
theorem dX6_mixLaws_36 : nv_dc qX6_mixLaws 36 (.iastore) 1 37 := ⟨by decide +kernel, rfl⟩
theorem dX6_mixLaws_37 : nv_dc qX6_mixLaws 37 (.iinc 2 1) 3 40 := ⟨by decide +kernel, rfl⟩
theorem dX6_mixLaws_40 : nv_dgo qX6_mixLaws 40 2 := ⟨(-38), by decide +kernel, by decide⟩
theorem dX6_mixLaws_43 : decode qX6_mixLaws.2.1 43 = .ok (.return_, 1) := by decide +kernel
def fc_mixLaws_30 (h : nv_Hp) (x1 : Int32) (x2 : Int32) (s1 : Int32) (s3 : Bool) (rec2 : Int32 → nv_Hp → Option (nv_Hp)) : Option (nv_Hp) := (if nv_inb (nv_bi s3) 2 = true then (if nv_inb x2 9 = true then (if nv_inb s1 9 = true then (nv_lt (nv_up h 10 s1.toNatClampNeg (h ((59 + 3 * (nv_bi s3).toNatClampNeg) + 2) x2.toNatClampNeg)) fun h4 => (rec2 (x2 + 1) h4)) else none) else none) else none)
set_option maxHeartbeats 2000000 in
theorem tc_mixLaws_30 (G : nv_G) (h : nv_Hp) (x1 : Int32) (x2 : Int32) (s1 : Int32) (s3 : Bool) (rec2 : Int32 → nv_Hp → Option (nv_Hp)) (hrec2 : ∀ (x2 : Int32) (h : nv_Hp) (r : nv_Hp), rec2 x2 h = some r → nv_E G 1 qX6_mixLaws 2 [some (.ref 0), some (.int x1), some (.int x2)] [] (nv_s h) (none, nv_s r)) (r : nv_Hp) (hf : fc_mixLaws_30 h x1 x2 s1 s3 rec2 = some r) : nv_E G 1 qX6_mixLaws 30 [some (.ref 0), some (.int x1), some (.int x2)] [.int (nv_bi s3), .ref 6, .int s1, .ref 10] (nv_s h) (none, nv_s r) := by
  unfold fc_mixLaws_30 at hf
  obtain ⟨g1, hf⟩ := nv_gd hf
  refine nv_aR dX6_mixLaws_30 kr_6 ⟨_, rfl⟩ g1 rfl ?_
  refine nv_gR (t := ((59 + 3 * (nv_bi s3).toNatClampNeg) + 2)) lf_X6_231 dX6_mixLaws_31 (nv_o3 g1) rfl ?_
  refine nv_iL dX6_mixLaws_34 rfl ?_
  obtain ⟨g2, hf⟩ := nv_gd hf
  refine nv_aI dX6_mixLaws_35 (nv_o3w (nv_o3 g1)) g2 rfl ?_
  obtain ⟨g3, hf⟩ := nv_gd hf
  refine nv_aP dX6_mixLaws_36 ka_10 g3 rfl ?_
  obtain ⟨h4, eh4, hf⟩ := nv_ltX hf
  rw [eh4]
  clear eh4
  refine nv_inc dX6_mixLaws_37 rfl (v := 1) (by decide) (by decide) rfl rfl ?_
  refine nv_goto dX6_mixLaws_40 ?_
  exact hrec2 _ _ _ hf
def fc_mixLaws_2  (x1 : Int32)  : Nat → Int32 → nv_Hp → Option (nv_Hp)
  | 0, _, _ => none
  | n + 1, x2, h => (if 9 ≤ x2 then some h else (fc_mixLaws_30 h x1 x2 x2 (if (fc_hasBit x1 x2) = true then true else false) (fc_mixLaws_2 x1 n)))
set_option maxHeartbeats 2000000 in
theorem tc_mixLaws_2 (G : nv_G)  (x1 : Int32)  : ∀ (n : Nat) (x2 : Int32) (h : nv_Hp) (r : nv_Hp), fc_mixLaws_2 x1 n x2 h = some r → nv_E G 1 qX6_mixLaws 2 [some (.ref 0), some (.int x1), some (.int x2)] [] (nv_s h) (none, nv_s r) := by
  intro n
  induction n with
  | zero =>
    intro x2 h r hf
    rw [fc_mixLaws_2] at hf
    cases hf
  | succ n ih =>
    intro x2 h r hf
    rw [fc_mixLaws_2] at hf
    refine nv_iL dX6_mixLaws_2 rfl ?_
    refine nv_k dX6_mixLaws_3 ?_
    refine nv_icge dX6_mixLaws_5 (fun c1 => ?_) (fun c1 => ?_)
    · replace hf := nv_ip c1 hf
      obtain rfl := Option.some.inj hf
      exact nv_return dX6_mixLaws_43 rfl
    · replace hf := nv_in c1 hf
      refine nv_aL dX6_mixLaws_8 rfl ?_
      refine nv_tR lf_X6_55 dX6_mixLaws_9 ko_0 rfl ?_
      refine nv_iL dX6_mixLaws_12 rfl ?_
      refine nv_aL dX6_mixLaws_13 rfl ?_
      refine nv_tR lf_X6_39 dX6_mixLaws_14 ko_0 rfl ?_
      refine nv_iL dX6_mixLaws_17 rfl ?_
      refine nv_iL dX6_mixLaws_18 rfl ?_
      refine nv_cSi (tc_hasBit G h x1 x2) dX6_mixLaws_19 lm_X6_265 y_qX6_hasBit rfl (by decide) rfl (Nat.le_of_ble_eq_true rfl) ?_
      refine nv_ifeqB dX6_mixLaws_22 (fun c2 => ?_) (fun c2 => ?_)
      · try simp only [if_pos c2] at hf
        refine nv_k dX6_mixLaws_25 ?_
        refine nv_goto dX6_mixLaws_26 ?_
        exact tc_mixLaws_30 G _ _ _ _ _ _ ih _ hf
      · try simp only [if_neg c2] at hf
        refine nv_k dX6_mixLaws_29 ?_
        exact tc_mixLaws_30 G _ _ _ _ _ _ ih _ hf
def fc_mixLaws (h : nv_Hp) (x1 : Int32) : Option (nv_Hp) := (fc_mixLaws_2 x1 nv_fu 0 h)
set_option maxHeartbeats 2000000 in
theorem tc_mixLaws (G : nv_G) (h : nv_Hp) (x1 : Int32) {r : nv_Hp} (hf : (fc_mixLaws h x1) = some r) : nv_Mt G 1 qX6_mixLaws [.ref 0, .int x1] (nv_s h) (none, nv_s r) := by
  refine nv_of (by decide +kernel) (fun ad => Nat.le_of_ble_eq_true rfl) (Nat.le_refl _) (Nat.le_of_ble_eq_true rfl) ?_
  show nv_E G 1 qX6_mixLaws 0 [some (.ref 0), some (.int x1), none] [] (nv_s h) (none, nv_s r)
  unfold fc_mixLaws at hf
  refine nv_k dX6_mixLaws_0 ?_
  refine nv_iS dX6_mixLaws_1 (by decide) rfl rfl ?_
  exact tc_mixLaws_2 G _ _ _ _ _ hf
/-! WhoseName.fewestLetters -/
theorem dX6_fewestLetters_0 : nv_daload qX6_fewestLetters 0 0 1 := Or.inr ⟨0, rfl, by decide +kernel, rfl⟩
theorem dX6_fewestLetters_1 : nv_daload qX6_fewestLetters 1 0 2 := Or.inr ⟨0, rfl, by decide +kernel, rfl⟩
theorem dX6_fewestLetters_2 : nv_dc qX6_fewestLetters 2 (.getfield 39) 3 5 := ⟨by decide +kernel, rfl⟩
theorem dX6_fewestLetters_5 : nv_dk qX6_fewestLetters 5 1 6 := Or.inl ⟨1, ⟨by decide +kernel, rfl⟩, by decide⟩
theorem dX6_fewestLetters_6 : nv_dc qX6_fewestLetters 6 (.aaload) 1 7 := ⟨by decide +kernel, rfl⟩
theorem dX6_fewestLetters_7 : nv_dc qX6_fewestLetters 7 (.getfield 231) 3 10 := ⟨by decide +kernel, rfl⟩
theorem dX6_fewestLetters_10 : nv_daload qX6_fewestLetters 10 1 11 := Or.inr ⟨1, rfl, by decide +kernel, rfl⟩
theorem dX6_fewestLetters_11 : nv_dk qX6_fewestLetters 11 0 12 := Or.inl ⟨0, ⟨by decide +kernel, rfl⟩, by decide⟩
theorem dX6_fewestLetters_12 : nv_dc qX6_fewestLetters 12 (.invokevirtual 241) 3 15 := ⟨by decide +kernel, rfl⟩
theorem dX6_fewestLetters_15 : nv_distore qX6_fewestLetters 15 2 16 := Or.inr ⟨2, rfl, by decide +kernel, rfl⟩
theorem dX6_fewestLetters_16 : nv_daload qX6_fewestLetters 16 0 17 := Or.inr ⟨0, rfl, by decide +kernel, rfl⟩
theorem dX6_fewestLetters_17 : nv_dc qX6_fewestLetters 17 (.invokevirtual 363) 3 20 := ⟨by decide +kernel, rfl⟩
theorem dX6_fewestLetters_20 : nv_distore qX6_fewestLetters 20 3 21 := Or.inr ⟨3, rfl, by decide +kernel, rfl⟩
theorem dX6_fewestLetters_21 : nv_dk qX6_fewestLetters 21 0 22 := Or.inl ⟨0, ⟨by decide +kernel, rfl⟩, by decide⟩
theorem dX6_fewestLetters_22 : nv_distore qX6_fewestLetters 22 4 24 := Or.inl ⟨by decide +kernel, rfl⟩
theorem dX6_fewestLetters_24 : nv_diload qX6_fewestLetters 24 4 26 := Or.inl ⟨by decide +kernel, rfl⟩
theorem dX6_fewestLetters_26 : nv_dk qX6_fewestLetters 26 9 28 := Or.inr (Or.inl ⟨9, ⟨by decide +kernel, rfl⟩, by decide⟩)
theorem dX6_fewestLetters_28 : nv_dic qX6_fewestLetters 28 .gt 99 31 := ⟨71, by decide +kernel, by decide, rfl⟩
theorem dX6_fewestLetters_31 : nv_dk qX6_fewestLetters 31 0 32 := Or.inl ⟨0, ⟨by decide +kernel, rfl⟩, by decide⟩
theorem dX6_fewestLetters_32 : nv_distore qX6_fewestLetters 32 5 34 := Or.inl ⟨by decide +kernel, rfl⟩
theorem dX6_fewestLetters_34 : nv_diload qX6_fewestLetters 34 5 36 := Or.inl ⟨by decide +kernel, rfl⟩
theorem dX6_fewestLetters_36 : nv_dk qX6_fewestLetters 36 512 39 := Or.inr (Or.inr ⟨512, ⟨by decide +kernel, rfl⟩, by decide⟩)
theorem dX6_fewestLetters_39 : nv_dic qX6_fewestLetters 39 .ge 93 42 := ⟨54, by decide +kernel, by decide, rfl⟩
theorem dX6_fewestLetters_42 : nv_diload qX6_fewestLetters 42 5 44 := Or.inl ⟨by decide +kernel, rfl⟩
theorem dX6_fewestLetters_44 : nv_diload qX6_fewestLetters 44 3 45 := Or.inr ⟨3, rfl, by decide +kernel, rfl⟩
theorem dX6_fewestLetters_45 : nv_dk qX6_fewestLetters 45 (-1) 46 := Or.inl ⟨(-1), ⟨by decide +kernel, rfl⟩, by decide⟩
theorem dX6_fewestLetters_46 : nv_dc qX6_fewestLetters 46 (.ixor) 1 47 := ⟨by decide +kernel, rfl⟩
theorem dX6_fewestLetters_47 : nv_dc qX6_fewestLetters 47 (.iand) 1 48 := ⟨by decide +kernel, rfl⟩
theorem dX6_fewestLetters_48 : nv_dif qX6_fewestLetters 48 .ne 87 51 := ⟨39, by decide +kernel, by decide, rfl⟩
theorem dX6_fewestLetters_51 : nv_diload qX6_fewestLetters 51 5 53 := Or.inl ⟨by decide +kernel, rfl⟩
theorem dX6_fewestLetters_53 : nv_dc qX6_fewestLetters 53 (.invokestatic 367) 3 56 := ⟨by decide +kernel, rfl⟩
theorem dX6_fewestLetters_56 : nv_diload qX6_fewestLetters 56 4 58 := Or.inl ⟨by decide +kernel, rfl⟩
theorem dX6_fewestLetters_58 : nv_dic qX6_fewestLetters 58 .eq 64 61 := ⟨6, by decide +kernel, by decide, rfl⟩
theorem dX6_fewestLetters_61 : nv_dgo qX6_fewestLetters 61 87 := ⟨26, by decide +kernel, by decide⟩
theorem dX6_fewestLetters_64 : nv_daload qX6_fewestLetters 64 0 65 := Or.inr ⟨0, rfl, by decide +kernel, rfl⟩
theorem dX6_fewestLetters_65 : nv_diload qX6_fewestLetters 65 5 67 := Or.inl ⟨by decide +kernel, rfl⟩
theorem dX6_fewestLetters_67 : nv_dc qX6_fewestLetters 67 (.invokevirtual 372) 3 70 := ⟨by decide +kernel, rfl⟩
theorem dX6_fewestLetters_70 : nv_daload qX6_fewestLetters 70 0 71 := Or.inr ⟨0, rfl, by decide +kernel, rfl⟩
theorem dX6_fewestLetters_71 : nv_daload qX6_fewestLetters 71 0 72 := Or.inr ⟨0, rfl, by decide +kernel, rfl⟩
theorem dX6_fewestLetters_72 : nv_dc qX6_fewestLetters 72 (.getfield 55) 3 75 := ⟨by decide +kernel, rfl⟩
theorem dX6_fewestLetters_75 : nv_daload qX6_fewestLetters 75 1 76 := Or.inr ⟨1, rfl, by decide +kernel, rfl⟩
theorem dX6_fewestLetters_76 : nv_dk qX6_fewestLetters 76 0 77 := Or.inl ⟨0, ⟨by decide +kernel, rfl⟩, by decide⟩
theorem dX6_fewestLetters_77 : nv_dc qX6_fewestLetters 77 (.invokevirtual 241) 3 80 := ⟨by decide +kernel, rfl⟩
theorem dX6_fewestLetters_80 : nv_diload qX6_fewestLetters 80 2 81 := Or.inr ⟨2, rfl, by decide +kernel, rfl⟩
theorem dX6_fewestLetters_81 : nv_dic qX6_fewestLetters 81 .ne 87 84 := ⟨6, by decide +kernel, by decide, rfl⟩
theorem dX6_fewestLetters_84 : nv_diload qX6_fewestLetters 84 5 86 := Or.inl ⟨by decide +kernel, rfl⟩
theorem dX6_fewestLetters_86 : decode qX6_fewestLetters.2.1 86 = .ok (.ireturn, 1) := by decide +kernel
theorem dX6_fewestLetters_87 : nv_dc qX6_fewestLetters 87 (.iinc 5 1) 3 90 := ⟨by decide +kernel, rfl⟩
theorem dX6_fewestLetters_90 : nv_dgo qX6_fewestLetters 90 34 := ⟨(-56), by decide +kernel, by decide⟩
theorem dX6_fewestLetters_93 : nv_dc qX6_fewestLetters 93 (.iinc 4 1) 3 96 := ⟨by decide +kernel, rfl⟩
theorem dX6_fewestLetters_96 : nv_dgo qX6_fewestLetters 96 24 := ⟨(-72), by decide +kernel, by decide⟩
theorem dX6_fewestLetters_99 : nv_diload qX6_fewestLetters 99 3 100 := Or.inr ⟨3, rfl, by decide +kernel, rfl⟩
theorem dX6_fewestLetters_100 : decode qX6_fewestLetters.2.1 100 = .ok (.ireturn, 1) := by decide +kernel
def fc_fewestLetters_34  (k1 : Nat) (x2 : Int32) (x3 : Int32) (x4 : Int32) (rec24 : Int32 → nv_Hp → Option (Int32 × nv_Hp)) : Nat → Int32 → nv_Hp → Option (Int32 × nv_Hp)
  | 0, _, _ => none
  | n + 1, x5, h => (if 512 ≤ x5 then (rec24 (x4 + 1) h) else (if (x5 &&& (x3 ^^^ (-1))) = 0 then (if (fj_bitCount x5) = x4 then (Option.bind (fc_mixLaws h x5) fun q4 => (Option.bind (fc_boundBits q4 10 k1 0) fun q5 => (if q5 = x2 then some (x5, q4) else ((fc_fewestLetters_34 k1 x2 x3 x4 rec24 n) (x5 + 1) q4)))) else ((fc_fewestLetters_34 k1 x2 x3 x4 rec24 n) (x5 + 1) h)) else ((fc_fewestLetters_34 k1 x2 x3 x4 rec24 n) (x5 + 1) h)))
set_option maxHeartbeats 2000000 in
theorem tc_fewestLetters_34 (G : nv_G)  (k1 : Nat) (hk1 : nv_O 2 k1) (x2 : Int32) (x3 : Int32) (x4 : Int32) (rec24 : Int32 → nv_Hp → Option (Int32 × nv_Hp)) (hrec24 : ∀ (x4 : Int32) (h : nv_Hp) (o5 : Option Value) (r : Int32 × nv_Hp), rec24 x4 h = some r → nv_E G 5 qX6_fewestLetters 24 [some (.ref 0), some (.ref k1), some (.int x2), some (.int x3), some (.int x4), o5] [] (nv_s h) (some (.int r.1), nv_s r.2)) : ∀ (n : Nat) (x5 : Int32) (h : nv_Hp) (r : Int32 × nv_Hp), fc_fewestLetters_34 k1 x2 x3 x4 rec24 n x5 h = some r → nv_E G 5 qX6_fewestLetters 34 [some (.ref 0), some (.ref k1), some (.int x2), some (.int x3), some (.int x4), some (.int x5)] [] (nv_s h) (some (.int r.1), nv_s r.2) := by
  intro n
  induction n with
  | zero =>
    intro x5 h r hf
    rw [fc_fewestLetters_34] at hf
    cases hf
  | succ n ih =>
    intro x5 h r hf
    rw [fc_fewestLetters_34] at hf
    refine nv_iL dX6_fewestLetters_34 rfl ?_
    refine nv_k dX6_fewestLetters_36 ?_
    refine nv_icge dX6_fewestLetters_39 (fun c1 => ?_) (fun c1 => ?_)
    · replace hf := nv_ip c1 hf
      refine nv_inc dX6_fewestLetters_93 rfl (v := 1) (by decide) (by decide) rfl rfl ?_
      refine nv_goto dX6_fewestLetters_96 ?_
      exact hrec24 _ _ _ _ hf
    · replace hf := nv_in c1 hf
      refine nv_iL dX6_fewestLetters_42 rfl ?_
      refine nv_iL dX6_fewestLetters_44 rfl ?_
      refine nv_k dX6_fewestLetters_45 ?_
      refine nv_ixor dX6_fewestLetters_46 ?_
      refine nv_iand dX6_fewestLetters_47 ?_
      refine nv_ifne dX6_fewestLetters_48 (fun c2 => ?_) (fun c2 => ?_)
      · replace hf := nv_ip c2 hf
        refine nv_iL dX6_fewestLetters_51 rfl ?_
        refine nv_cSi (tj_bitCount G h x5) dX6_fewestLetters_53 lm_X6_367 y_qJ6_bitCount rfl (by decide) rfl (Nat.le_of_ble_eq_true rfl) ?_
        refine nv_iL dX6_fewestLetters_56 rfl ?_
        refine nv_iceq dX6_fewestLetters_58 (fun c3 => ?_) (fun c3 => ?_)
        · replace hf := nv_ip c3 hf
          refine nv_aL dX6_fewestLetters_64 rfl ?_
          refine nv_iL dX6_fewestLetters_65 rfl ?_
          obtain ⟨q4, hq4, hf⟩ := nv_bd hf
          refine nv_cVv (tc_mixLaws G h x5 hq4) dX6_fewestLetters_67 lm_X6_372 y_qX6_mixLaws ko_0 rfl rfl (by decide) rfl (Nat.le_of_ble_eq_true rfl) ?_
          refine nv_aL dX6_fewestLetters_70 rfl ?_
          refine nv_aL dX6_fewestLetters_71 rfl ?_
          refine nv_tR lf_X6_55 dX6_fewestLetters_72 ko_0 rfl ?_
          refine nv_aL dX6_fewestLetters_75 rfl ?_
          refine nv_k dX6_fewestLetters_76 ?_
          obtain ⟨q5, hq5, hf⟩ := nv_bd hf
          refine nv_cVi (tc_boundBits G q4 10 ka_10 k1 hk1 0 hq5) dX6_fewestLetters_77 lm_X6_241 y_qX6_boundBits ko_0 rfl rfl (by decide) rfl (Nat.le_of_ble_eq_true rfl) ?_
          refine nv_iL dX6_fewestLetters_80 rfl ?_
          refine nv_icne dX6_fewestLetters_81 (fun c6 => ?_) (fun c6 => ?_)
          · replace hf := nv_ip c6 hf
            refine nv_iL dX6_fewestLetters_84 rfl ?_
            obtain rfl := Option.some.inj hf
            exact nv_ireturnI dX6_fewestLetters_86 rfl
          · replace hf := nv_in c6 hf
            refine nv_inc dX6_fewestLetters_87 rfl (v := 1) (by decide) (by decide) rfl rfl ?_
            refine nv_goto dX6_fewestLetters_90 ?_
            exact ih _ _ _ hf
        · replace hf := nv_in c3 hf
          refine nv_goto dX6_fewestLetters_61 ?_
          refine nv_inc dX6_fewestLetters_87 rfl (v := 1) (by decide) (by decide) rfl rfl ?_
          refine nv_goto dX6_fewestLetters_90 ?_
          exact ih _ _ _ hf
      · replace hf := nv_in c2 hf
        refine nv_inc dX6_fewestLetters_87 rfl (v := 1) (by decide) (by decide) rfl rfl ?_
        refine nv_goto dX6_fewestLetters_90 ?_
        exact ih _ _ _ hf
def fc_fewestLetters_24  (k1 : Nat) (x2 : Int32) (x3 : Int32)  : Nat → Int32 → nv_Hp → Option (Int32 × nv_Hp)
  | 0, _, _ => none
  | n + 1, x4, h => (if 9 < x4 then some (x3, h) else (fc_fewestLetters_34 k1 x2 x3 x4 (fc_fewestLetters_24 k1 x2 x3 n) nv_fu 0 h))
set_option maxHeartbeats 2000000 in
theorem tc_fewestLetters_24 (G : nv_G)  (k1 : Nat) (hk1 : nv_O 2 k1) (x2 : Int32) (x3 : Int32)  : ∀ (n : Nat) (x4 : Int32) (h : nv_Hp) (o5 : Option Value) (r : Int32 × nv_Hp), fc_fewestLetters_24 k1 x2 x3 n x4 h = some r → nv_E G 5 qX6_fewestLetters 24 [some (.ref 0), some (.ref k1), some (.int x2), some (.int x3), some (.int x4), o5] [] (nv_s h) (some (.int r.1), nv_s r.2) := by
  intro n
  induction n with
  | zero =>
    intro x4 h o5 r hf
    rw [fc_fewestLetters_24] at hf
    cases hf
  | succ n ih =>
    intro x4 h o5 r hf
    rw [fc_fewestLetters_24] at hf
    refine nv_iL dX6_fewestLetters_24 rfl ?_
    refine nv_k dX6_fewestLetters_26 ?_
    refine nv_icgt dX6_fewestLetters_28 (fun c1 => ?_) (fun c1 => ?_)
    · replace hf := nv_ip c1 hf
      refine nv_iL dX6_fewestLetters_99 rfl ?_
      obtain rfl := Option.some.inj hf
      exact nv_ireturnI dX6_fewestLetters_100 rfl
    · replace hf := nv_in c1 hf
      refine nv_k dX6_fewestLetters_31 ?_
      refine nv_iS dX6_fewestLetters_32 (by decide) rfl rfl ?_
      exact tc_fewestLetters_34 G _ hk1 _ _ _ _ ih _ _ _ _ hf
def fc_fewestLetters (h : nv_Hp) (k1 : Nat) : Option (Int32 × nv_Hp) := (Option.bind (fc_boundBits h 64 k1 0) fun q1 => (Option.bind (fc_unlikeLetters h) fun q2 => (fc_fewestLetters_24 k1 q1 q2 nv_fu 0 h)))
set_option maxHeartbeats 2000000 in
theorem tc_fewestLetters (G : nv_G) (h : nv_Hp) (k1 : Nat) (hk1 : nv_O 2 k1) {r : Int32 × nv_Hp} (hf : (fc_fewestLetters h k1) = some r) : nv_Mt G 5 qX6_fewestLetters [.ref 0, .ref k1] (nv_s h) (some (.int r.1), nv_s r.2) := by
  refine nv_of (by decide +kernel) (fun ad => Nat.le_of_ble_eq_true rfl) (Nat.le_refl _) (Nat.le_of_ble_eq_true rfl) ?_
  show nv_E G 5 qX6_fewestLetters 0 [some (.ref 0), some (.ref k1), none, none, none, none] [] (nv_s h) (some (.int r.1), nv_s r.2)
  unfold fc_fewestLetters at hf
  refine nv_aL dX6_fewestLetters_0 rfl ?_
  refine nv_aL dX6_fewestLetters_1 rfl ?_
  refine nv_tR lf_X6_39 dX6_fewestLetters_2 ko_0 rfl ?_
  refine nv_k dX6_fewestLetters_5 ?_
  refine nv_aR (q := 62) dX6_fewestLetters_6 kr_6 ⟨_, rfl⟩ (by decide) (by decide) ?_
  refine nv_gR (t := 64) lf_X6_231 dX6_fewestLetters_7 (nv_o3j 1 (by decide)) rfl ?_
  refine nv_aL dX6_fewestLetters_10 rfl ?_
  refine nv_k dX6_fewestLetters_11 ?_
  obtain ⟨q1, hq1, hf⟩ := nv_bd hf
  refine nv_cVi (tc_boundBits G h 64 (nv_o3w (nv_o3j 1 (by decide))) k1 hk1 0 hq1) dX6_fewestLetters_12 lm_X6_241 y_qX6_boundBits ko_0 rfl rfl (by decide) rfl (Nat.le_of_ble_eq_true rfl) ?_
  refine nv_iS dX6_fewestLetters_15 (by decide) rfl rfl ?_
  refine nv_aL dX6_fewestLetters_16 rfl ?_
  obtain ⟨q2, hq2, hf⟩ := nv_bd hf
  refine nv_cVi (tc_unlikeLetters G h hq2) dX6_fewestLetters_17 lm_X6_363 y_qX6_unlikeLetters ko_0 rfl rfl (by decide) rfl (Nat.le_of_ble_eq_true rfl) ?_
  refine nv_iS dX6_fewestLetters_20 (by decide) rfl rfl ?_
  refine nv_k dX6_fewestLetters_21 ?_
  refine nv_iS dX6_fewestLetters_22 (by decide) rfl rfl ?_
  exact tc_fewestLetters_24 G _ hk1 _ _ _ _ _ _ _ hf
/-! WhoseName.turned -/
theorem dX6_turned_0 : nv_daload qX6_turned 0 0 1 := Or.inr ⟨0, rfl, by decide +kernel, rfl⟩
theorem dX6_turned_1 : nv_diload qX6_turned 1 1 2 := Or.inr ⟨1, rfl, by decide +kernel, rfl⟩
theorem dX6_turned_2 : nv_dc qX6_turned 2 (.invokevirtual 201) 3 5 := ⟨by decide +kernel, rfl⟩
theorem dX6_turned_5 : nv_dif qX6_turned 5 .eq 21 8 := ⟨16, by decide +kernel, by decide, rfl⟩
theorem dX6_turned_8 : nv_daload qX6_turned 8 0 9 := Or.inr ⟨0, rfl, by decide +kernel, rfl⟩
theorem dX6_turned_9 : nv_daload qX6_turned 9 0 10 := Or.inr ⟨0, rfl, by decide +kernel, rfl⟩
theorem dX6_turned_10 : nv_dc qX6_turned 10 (.getfield 27) 3 13 := ⟨by decide +kernel, rfl⟩
theorem dX6_turned_13 : nv_diload qX6_turned 13 1 14 := Or.inr ⟨1, rfl, by decide +kernel, rfl⟩
theorem dX6_turned_14 : nv_dc qX6_turned 14 (.aaload) 1 15 := ⟨by decide +kernel, rfl⟩
theorem dX6_turned_15 : nv_dc qX6_turned 15 (.invokevirtual 343) 3 18 := ⟨by decide +kernel, rfl⟩
theorem dX6_turned_18 : nv_dgo qX6_turned 18 23 := ⟨5, by decide +kernel, by decide⟩
theorem dX6_turned_21 : nv_dk qX6_turned 21 (-2) 23 := Or.inr (Or.inl ⟨(-2), ⟨by decide +kernel, rfl⟩, by decide⟩)
theorem dX6_turned_23 : decode qX6_turned.2.1 23 = .ok (.ireturn, 1) := by decide +kernel
def fc_turned (h : nv_Hp) (x1 : Int32) : Option (Int32 × nv_Hp) := (if (fc_isBargain h x1) = true then (if nv_inb x1 10 = true then (Option.bind (fc_fewestLetters h (37 + x1.toNatClampNeg)) fun q3 => some (q3.1, q3.2)) else none) else some ((-2), h))
set_option maxHeartbeats 2000000 in
theorem tc_turned (G : nv_G) (h : nv_Hp) (x1 : Int32) {r : Int32 × nv_Hp} (hf : (fc_turned h x1) = some r) : nv_Mt G 6 qX6_turned [.ref 0, .int x1] (nv_s h) (some (.int r.1), nv_s r.2) := by
  refine nv_of (by decide +kernel) (fun ad => Nat.le_of_ble_eq_true rfl) (Nat.le_refl _) (Nat.le_of_ble_eq_true rfl) ?_
  show nv_E G 6 qX6_turned 0 [some (.ref 0), some (.int x1)] [] (nv_s h) (some (.int r.1), nv_s r.2)
  unfold fc_turned at hf
  refine nv_aL dX6_turned_0 rfl ?_
  refine nv_iL dX6_turned_1 rfl ?_
  refine nv_cVi (tc_isBargain G h x1) dX6_turned_2 lm_X6_201 y_qX6_isBargain ko_0 rfl rfl (by decide) rfl (Nat.le_of_ble_eq_true rfl) ?_
  refine nv_ifeqB dX6_turned_5 (fun c1 => ?_) (fun c1 => ?_)
  · replace hf := nv_ip c1 hf
    refine nv_aL dX6_turned_8 rfl ?_
    refine nv_aL dX6_turned_9 rfl ?_
    refine nv_tR lf_X6_27 dX6_turned_10 ko_0 rfl ?_
    refine nv_iL dX6_turned_13 rfl ?_
    obtain ⟨g2, hf⟩ := nv_gd hf
    refine nv_aR dX6_turned_14 kr_4 ⟨_, rfl⟩ g2 (nv_q1 _ _) ?_
    obtain ⟨q3, hq3, hf⟩ := nv_bd hf
    refine nv_cVi (tc_fewestLetters G h (37 + x1.toNatClampNeg) (nv_o2 g2) hq3) dX6_turned_15 lm_X6_343 y_qX6_fewestLetters ko_0 rfl rfl (by decide) rfl (Nat.le_of_ble_eq_true rfl) ?_
    refine nv_goto dX6_turned_18 ?_
    obtain rfl := Option.some.inj hf
    exact nv_ireturnI dX6_turned_23 rfl
  · replace hf := nv_in c1 hf
    refine nv_k dX6_turned_21 ?_
    obtain rfl := Option.some.inj hf
    exact nv_ireturnI dX6_turned_23 rfl
/-! WhoseName.bargainsBetween -/
theorem dX6_bargainsBetween_0 : nv_dk qX6_bargainsBetween 0 0 1 := Or.inl ⟨0, ⟨by decide +kernel, rfl⟩, by decide⟩
theorem dX6_bargainsBetween_1 : nv_distore qX6_bargainsBetween 1 3 2 := Or.inr ⟨3, rfl, by decide +kernel, rfl⟩
theorem dX6_bargainsBetween_2 : nv_dk qX6_bargainsBetween 2 0 3 := Or.inl ⟨0, ⟨by decide +kernel, rfl⟩, by decide⟩
theorem dX6_bargainsBetween_3 : nv_distore qX6_bargainsBetween 3 4 5 := Or.inl ⟨by decide +kernel, rfl⟩
theorem dX6_bargainsBetween_5 : nv_diload qX6_bargainsBetween 5 4 7 := Or.inl ⟨by decide +kernel, rfl⟩
theorem dX6_bargainsBetween_7 : nv_daload qX6_bargainsBetween 7 0 8 := Or.inr ⟨0, rfl, by decide +kernel, rfl⟩
theorem dX6_bargainsBetween_8 : nv_dc qX6_bargainsBetween 8 (.getfield 156) 3 11 := ⟨by decide +kernel, rfl⟩
theorem dX6_bargainsBetween_11 : nv_dic qX6_bargainsBetween 11 .ge 55 14 := ⟨44, by decide +kernel, by decide, rfl⟩
theorem dX6_bargainsBetween_14 : nv_daload qX6_bargainsBetween 14 0 15 := Or.inr ⟨0, rfl, by decide +kernel, rfl⟩
theorem dX6_bargainsBetween_15 : nv_dc qX6_bargainsBetween 15 (.getfield 27) 3 18 := ⟨by decide +kernel, rfl⟩
theorem dX6_bargainsBetween_18 : nv_diload qX6_bargainsBetween 18 4 20 := Or.inl ⟨by decide +kernel, rfl⟩
theorem dX6_bargainsBetween_20 : nv_dc qX6_bargainsBetween 20 (.aaload) 1 21 := ⟨by decide +kernel, rfl⟩
theorem dX6_bargainsBetween_21 : nv_dc qX6_bargainsBetween 21 (.getfield 162) 3 24 := ⟨by decide +kernel, rfl⟩
theorem dX6_bargainsBetween_24 : nv_diload qX6_bargainsBetween 24 2 25 := Or.inr ⟨2, rfl, by decide +kernel, rfl⟩
theorem dX6_bargainsBetween_25 : nv_dic qX6_bargainsBetween 25 .ne 49 28 := ⟨24, by decide +kernel, by decide, rfl⟩
theorem dX6_bargainsBetween_28 : nv_daload qX6_bargainsBetween 28 0 29 := Or.inr ⟨0, rfl, by decide +kernel, rfl⟩
theorem dX6_bargainsBetween_29 : nv_dc qX6_bargainsBetween 29 (.getfield 27) 3 32 := ⟨by decide +kernel, rfl⟩
theorem dX6_bargainsBetween_32 : nv_diload qX6_bargainsBetween 32 4 34 := Or.inl ⟨by decide +kernel, rfl⟩
theorem dX6_bargainsBetween_34 : nv_dc qX6_bargainsBetween 34 (.aaload) 1 35 := ⟨by decide +kernel, rfl⟩
theorem dX6_bargainsBetween_35 : nv_dc qX6_bargainsBetween 35 (.getfield 165) 3 38 := ⟨by decide +kernel, rfl⟩
theorem dX6_bargainsBetween_38 : nv_diload qX6_bargainsBetween 38 1 39 := Or.inr ⟨1, rfl, by decide +kernel, rfl⟩
theorem dX6_bargainsBetween_39 : nv_dic qX6_bargainsBetween 39 .ne 49 42 := ⟨10, by decide +kernel, by decide, rfl⟩
theorem dX6_bargainsBetween_42 : nv_diload qX6_bargainsBetween 42 3 43 := Or.inr ⟨3, rfl, by decide +kernel, rfl⟩
theorem dX6_bargainsBetween_43 : nv_dk qX6_bargainsBetween 43 1 44 := Or.inl ⟨1, ⟨by decide +kernel, rfl⟩, by decide⟩
theorem dX6_bargainsBetween_44 : nv_diload qX6_bargainsBetween 44 4 46 := Or.inl ⟨by decide +kernel, rfl⟩
theorem dX6_bargainsBetween_46 : nv_dc qX6_bargainsBetween 46 (.ishl) 1 47 := ⟨by decide +kernel, rfl⟩
theorem dX6_bargainsBetween_47 : nv_dc qX6_bargainsBetween 47 (.ior) 1 48 := ⟨by decide +kernel, rfl⟩
theorem dX6_bargainsBetween_48 : nv_distore qX6_bargainsBetween 48 3 49 := Or.inr ⟨3, rfl, by decide +kernel, rfl⟩
theorem dX6_bargainsBetween_49 : nv_dc qX6_bargainsBetween 49 (.iinc 4 1) 3 52 := ⟨by decide +kernel, rfl⟩
theorem dX6_bargainsBetween_52 : nv_dgo qX6_bargainsBetween 52 5 := ⟨(-47), by decide +kernel, by decide⟩
theorem dX6_bargainsBetween_55 : nv_diload qX6_bargainsBetween 55 3 56 := Or.inr ⟨3, rfl, by decide +kernel, rfl⟩
theorem dX6_bargainsBetween_56 : decode qX6_bargainsBetween.2.1 56 = .ok (.ireturn, 1) := by decide +kernel
def fc_bargainsBetween_5 (h : nv_Hp) (x1 : Int32) (x2 : Int32)  : Nat → Int32 → Int32 → Option (Int32)
  | 0, _, _ => none
  | n + 1, x3, x4 => (if (h 0 9) ≤ x4 then some x3 else (if nv_inb x4 10 = true then ((fc_bargainsBetween_5 h x1 x2 n) (if (h (37 + x4.toNatClampNeg) 1) = x2 then (if (h (37 + x4.toNatClampNeg) 2) = x1 then (x3 ||| (1 <<< (x4 &&& 31))) else x3) else x3) (x4 + 1)) else none))
set_option maxHeartbeats 2000000 in
theorem tc_bargainsBetween_5 (G : nv_G) (h : nv_Hp) (x1 : Int32) (x2 : Int32)  : ∀ (n : Nat) (x3 : Int32) (x4 : Int32) (r : Int32), fc_bargainsBetween_5 h x1 x2 n x3 x4 = some r → nv_E G 0 qX6_bargainsBetween 5 [some (.ref 0), some (.int x1), some (.int x2), some (.int x3), some (.int x4)] [] (nv_s h) (some (.int r), nv_s h) := by
  intro n
  induction n with
  | zero =>
    intro x3 x4 r hf
    rw [fc_bargainsBetween_5] at hf
    cases hf
  | succ n ih =>
    intro x3 x4 r hf
    rw [fc_bargainsBetween_5] at hf
    refine nv_iL dX6_bargainsBetween_5 rfl ?_
    refine nv_aL dX6_bargainsBetween_7 rfl ?_
    refine nv_tI lf_X6_156 dX6_bargainsBetween_8 ko_0 rfl ?_
    refine nv_icge dX6_bargainsBetween_11 (fun c1 => ?_) (fun c1 => ?_)
    · replace hf := nv_ip c1 hf
      refine nv_iL dX6_bargainsBetween_55 rfl ?_
      obtain rfl := Option.some.inj hf
      exact nv_ireturnI dX6_bargainsBetween_56 rfl
    · replace hf := nv_in c1 hf
      refine nv_aL dX6_bargainsBetween_14 rfl ?_
      refine nv_tR lf_X6_27 dX6_bargainsBetween_15 ko_0 rfl ?_
      refine nv_iL dX6_bargainsBetween_18 rfl ?_
      obtain ⟨g2, hf⟩ := nv_gd hf
      refine nv_aR dX6_bargainsBetween_20 kr_4 ⟨_, rfl⟩ g2 (nv_q1 _ _) ?_
      refine nv_gI lf_X6_162 dX6_bargainsBetween_21 (nv_o2 g2) rfl ?_
      refine nv_iL dX6_bargainsBetween_24 rfl ?_
      refine nv_icne dX6_bargainsBetween_25 (fun c3 => ?_) (fun c3 => ?_)
      · try simp only [if_pos c3] at hf
        refine nv_aL dX6_bargainsBetween_28 rfl ?_
        refine nv_tR lf_X6_27 dX6_bargainsBetween_29 ko_0 rfl ?_
        refine nv_iL dX6_bargainsBetween_32 rfl ?_
        refine nv_aR dX6_bargainsBetween_34 kr_4 ⟨_, rfl⟩ g2 (nv_q1 _ _) ?_
        refine nv_gI lf_X6_165 dX6_bargainsBetween_35 (nv_o2 g2) rfl ?_
        refine nv_iL dX6_bargainsBetween_38 rfl ?_
        refine nv_icne dX6_bargainsBetween_39 (fun c4 => ?_) (fun c4 => ?_)
        · try simp only [if_pos c4] at hf
          refine nv_iL dX6_bargainsBetween_42 rfl ?_
          refine nv_k dX6_bargainsBetween_43 ?_
          refine nv_iL dX6_bargainsBetween_44 rfl ?_
          refine nv_ishl dX6_bargainsBetween_46 ?_
          refine nv_ior dX6_bargainsBetween_47 ?_
          refine nv_iS dX6_bargainsBetween_48 (by decide) rfl rfl ?_
          refine nv_inc dX6_bargainsBetween_49 rfl (v := 1) (by decide) (by decide) rfl rfl ?_
          refine nv_goto dX6_bargainsBetween_52 ?_
          exact ih _ _ _ hf
        · try simp only [if_neg c4] at hf
          refine nv_inc dX6_bargainsBetween_49 rfl (v := 1) (by decide) (by decide) rfl rfl ?_
          refine nv_goto dX6_bargainsBetween_52 ?_
          exact ih _ _ _ hf
      · try simp only [if_neg c3] at hf
        refine nv_inc dX6_bargainsBetween_49 rfl (v := 1) (by decide) (by decide) rfl rfl ?_
        refine nv_goto dX6_bargainsBetween_52 ?_
        exact ih _ _ _ hf
def fc_bargainsBetween (h : nv_Hp) (x1 : Int32) (x2 : Int32) : Option (Int32) := (fc_bargainsBetween_5 h x1 x2 nv_fu 0 0)
set_option maxHeartbeats 2000000 in
theorem tc_bargainsBetween (G : nv_G) (h : nv_Hp) (x1 : Int32) (x2 : Int32) {r : Int32} (hf : (fc_bargainsBetween h x1 x2) = some r) : nv_Mt G 0 qX6_bargainsBetween [.ref 0, .int x1, .int x2] (nv_s h) (some (.int r), nv_s h) := by
  refine nv_of (by decide +kernel) (fun ad => Nat.le_of_ble_eq_true rfl) (Nat.le_refl _) (Nat.le_of_ble_eq_true rfl) ?_
  show nv_E G 0 qX6_bargainsBetween 0 [some (.ref 0), some (.int x1), some (.int x2), none, none] [] (nv_s h) (some (.int r), nv_s h)
  unfold fc_bargainsBetween at hf
  refine nv_k dX6_bargainsBetween_0 ?_
  refine nv_iS dX6_bargainsBetween_1 (by decide) rfl rfl ?_
  refine nv_k dX6_bargainsBetween_2 ?_
  refine nv_iS dX6_bargainsBetween_3 (by decide) rfl rfl ?_
  exact tc_bargainsBetween_5 G _ _ _ _ _ _ _ hf
/-! WhoseName.boundAlready -/
theorem dX6_boundAlready_0 : nv_dk qX6_boundAlready 0 0 1 := Or.inl ⟨0, ⟨by decide +kernel, rfl⟩, by decide⟩
theorem dX6_boundAlready_1 : nv_distore qX6_boundAlready 1 3 2 := Or.inr ⟨3, rfl, by decide +kernel, rfl⟩
theorem dX6_boundAlready_2 : nv_dk qX6_boundAlready 2 0 3 := Or.inl ⟨0, ⟨by decide +kernel, rfl⟩, by decide⟩
theorem dX6_boundAlready_3 : nv_distore qX6_boundAlready 3 4 5 := Or.inl ⟨by decide +kernel, rfl⟩
theorem dX6_boundAlready_5 : nv_diload qX6_boundAlready 5 4 7 := Or.inl ⟨by decide +kernel, rfl⟩
theorem dX6_boundAlready_7 : nv_daload qX6_boundAlready 7 0 8 := Or.inr ⟨0, rfl, by decide +kernel, rfl⟩
theorem dX6_boundAlready_8 : nv_dc qX6_boundAlready 8 (.getfield 156) 3 11 := ⟨by decide +kernel, rfl⟩
theorem dX6_boundAlready_11 : nv_dic qX6_boundAlready 11 .ge 52 14 := ⟨41, by decide +kernel, by decide, rfl⟩
theorem dX6_boundAlready_14 : nv_diload qX6_boundAlready 14 2 15 := Or.inr ⟨2, rfl, by decide +kernel, rfl⟩
theorem dX6_boundAlready_15 : nv_diload qX6_boundAlready 15 4 17 := Or.inl ⟨by decide +kernel, rfl⟩
theorem dX6_boundAlready_17 : nv_dc qX6_boundAlready 17 (.invokestatic 265) 3 20 := ⟨by decide +kernel, rfl⟩
theorem dX6_boundAlready_20 : nv_dif qX6_boundAlready 20 .eq 46 23 := ⟨26, by decide +kernel, by decide, rfl⟩
theorem dX6_boundAlready_23 : nv_daload qX6_boundAlready 23 0 24 := Or.inr ⟨0, rfl, by decide +kernel, rfl⟩
theorem dX6_boundAlready_24 : nv_daload qX6_boundAlready 24 1 25 := Or.inr ⟨1, rfl, by decide +kernel, rfl⟩
theorem dX6_boundAlready_25 : nv_daload qX6_boundAlready 25 0 26 := Or.inr ⟨0, rfl, by decide +kernel, rfl⟩
theorem dX6_boundAlready_26 : nv_dc qX6_boundAlready 26 (.getfield 27) 3 29 := ⟨by decide +kernel, rfl⟩
theorem dX6_boundAlready_29 : nv_diload qX6_boundAlready 29 4 31 := Or.inl ⟨by decide +kernel, rfl⟩
theorem dX6_boundAlready_31 : nv_dc qX6_boundAlready 31 (.aaload) 1 32 := ⟨by decide +kernel, rfl⟩
theorem dX6_boundAlready_32 : nv_dk qX6_boundAlready 32 0 33 := Or.inl ⟨0, ⟨by decide +kernel, rfl⟩, by decide⟩
theorem dX6_boundAlready_33 : nv_dc qX6_boundAlready 33 (.invokevirtual 241) 3 36 := ⟨by decide +kernel, rfl⟩
theorem dX6_boundAlready_36 : nv_dif qX6_boundAlready 36 .eq 46 39 := ⟨10, by decide +kernel, by decide, rfl⟩
theorem dX6_boundAlready_39 : nv_diload qX6_boundAlready 39 3 40 := Or.inr ⟨3, rfl, by decide +kernel, rfl⟩
theorem dX6_boundAlready_40 : nv_dk qX6_boundAlready 40 1 41 := Or.inl ⟨1, ⟨by decide +kernel, rfl⟩, by decide⟩
theorem dX6_boundAlready_41 : nv_diload qX6_boundAlready 41 4 43 := Or.inl ⟨by decide +kernel, rfl⟩
theorem dX6_boundAlready_43 : nv_dc qX6_boundAlready 43 (.ishl) 1 44 := ⟨by decide +kernel, rfl⟩
theorem dX6_boundAlready_44 : nv_dc qX6_boundAlready 44 (.ior) 1 45 := ⟨by decide +kernel, rfl⟩
theorem dX6_boundAlready_45 : nv_distore qX6_boundAlready 45 3 46 := Or.inr ⟨3, rfl, by decide +kernel, rfl⟩
theorem dX6_boundAlready_46 : nv_dc qX6_boundAlready 46 (.iinc 4 1) 3 49 := ⟨by decide +kernel, rfl⟩
theorem dX6_boundAlready_49 : nv_dgo qX6_boundAlready 49 5 := ⟨(-44), by decide +kernel, by decide⟩
theorem dX6_boundAlready_52 : nv_diload qX6_boundAlready 52 3 53 := Or.inr ⟨3, rfl, by decide +kernel, rfl⟩
theorem dX6_boundAlready_53 : decode qX6_boundAlready.2.1 53 = .ok (.ireturn, 1) := by decide +kernel
def fc_boundAlready_5 (h : nv_Hp) (k1 : Nat) (x2 : Int32)  : Nat → Int32 → Int32 → Option (Int32)
  | 0, _, _ => none
  | n + 1, x3, x4 => (if (h 0 9) ≤ x4 then some x3 else (Option.bind ((if (fc_hasBit x2 x4) = true then (if nv_inb x4 10 = true then (Option.bind (fc_boundBits h k1 (37 + x4.toNatClampNeg) 0) fun q3 => (if q3 = 0 then some (x3) else some ((x3 ||| (1 <<< (x4 &&& 31)))))) else none) else some (x3)) : Option (Int32)) fun u4 => (fc_boundAlready_5 h k1 x2 n) u4 (x4 + 1)))
set_option maxHeartbeats 2000000 in
theorem tc_boundAlready_5 (G : nv_G) (h : nv_Hp) (k1 : Nat) (hk1 : nv_A 9 k1) (x2 : Int32)  : ∀ (n : Nat) (x3 : Int32) (x4 : Int32) (r : Int32), fc_boundAlready_5 h k1 x2 n x3 x4 = some r → nv_E G 5 qX6_boundAlready 5 [some (.ref 0), some (.ref k1), some (.int x2), some (.int x3), some (.int x4)] [] (nv_s h) (some (.int r), nv_s h) := by
  intro n
  induction n with
  | zero =>
    intro x3 x4 r hf
    rw [fc_boundAlready_5] at hf
    cases hf
  | succ n ih =>
    intro x3 x4 r hf
    rw [fc_boundAlready_5] at hf
    refine nv_iL dX6_boundAlready_5 rfl ?_
    refine nv_aL dX6_boundAlready_7 rfl ?_
    refine nv_tI lf_X6_156 dX6_boundAlready_8 ko_0 rfl ?_
    refine nv_icge dX6_boundAlready_11 (fun c1 => ?_) (fun c1 => ?_)
    · replace hf := nv_ip c1 hf
      refine nv_iL dX6_boundAlready_52 rfl ?_
      obtain rfl := Option.some.inj hf
      exact nv_ireturnI dX6_boundAlready_53 rfl
    · replace hf := nv_in c1 hf
      refine nv_iL dX6_boundAlready_14 rfl ?_
      refine nv_iL dX6_boundAlready_15 rfl ?_
      refine nv_cSi (tc_hasBit G h x2 x4) dX6_boundAlready_17 lm_X6_265 y_qX6_hasBit rfl (by decide) rfl (Nat.le_of_ble_eq_true rfl) ?_
      refine nv_ifeqB dX6_boundAlready_20 (fun c5 => ?_) (fun c5 => ?_)
      · try simp only [if_pos c5, Option.bind_some] at hf
        refine nv_aL dX6_boundAlready_23 rfl ?_
        refine nv_aL dX6_boundAlready_24 rfl ?_
        refine nv_aL dX6_boundAlready_25 rfl ?_
        refine nv_tR lf_X6_27 dX6_boundAlready_26 ko_0 rfl ?_
        refine nv_iL dX6_boundAlready_29 rfl ?_
        have g6 : nv_inb x4 10 = true := by
          by_cases g6 : nv_inb x4 10 = true
          · exact g6
          · exfalso; simp [if_neg g6] at hf
        simp only [if_pos g6, Option.bind_some] at hf
        refine nv_aR dX6_boundAlready_31 kr_4 ⟨_, rfl⟩ g6 (nv_q1 _ _) ?_
        refine nv_k dX6_boundAlready_32 ?_
        obtain ⟨q7, hq7⟩ : ∃ q, fc_boundBits h k1 (37 + x4.toNatClampNeg) 0 = some q := by
          cases hq7 : fc_boundBits h k1 (37 + x4.toNatClampNeg) 0 with
          | none => exfalso; simp [hq7] at hf
          | some q => exact ⟨q, rfl⟩
        simp only [hq7, Option.bind_some] at hf
        refine nv_cVi (tc_boundBits G h k1 hk1 (37 + x4.toNatClampNeg) (nv_o2 g6) 0 hq7) dX6_boundAlready_33 lm_X6_241 y_qX6_boundBits ko_0 rfl rfl (by decide) rfl (Nat.le_of_ble_eq_true rfl) ?_
        refine nv_ifeq dX6_boundAlready_36 (fun c8 => ?_) (fun c8 => ?_)
        · try simp only [if_pos c8, Option.bind_some] at hf
          refine nv_inc dX6_boundAlready_46 rfl (v := 1) (by decide) (by decide) rfl rfl ?_
          refine nv_goto dX6_boundAlready_49 ?_
          exact ih _ _ _ hf
        · try simp only [if_neg c8, Option.bind_some] at hf
          refine nv_iL dX6_boundAlready_39 rfl ?_
          refine nv_k dX6_boundAlready_40 ?_
          refine nv_iL dX6_boundAlready_41 rfl ?_
          refine nv_ishl dX6_boundAlready_43 ?_
          refine nv_ior dX6_boundAlready_44 ?_
          refine nv_iS dX6_boundAlready_45 (by decide) rfl rfl ?_
          refine nv_inc dX6_boundAlready_46 rfl (v := 1) (by decide) (by decide) rfl rfl ?_
          refine nv_goto dX6_boundAlready_49 ?_
          exact ih _ _ _ hf
      · try simp only [if_neg c5, Option.bind_some] at hf
        refine nv_inc dX6_boundAlready_46 rfl (v := 1) (by decide) (by decide) rfl rfl ?_
        refine nv_goto dX6_boundAlready_49 ?_
        exact ih _ _ _ hf
def fc_boundAlready (h : nv_Hp) (k1 : Nat) (x2 : Int32) : Option (Int32) := (fc_boundAlready_5 h k1 x2 nv_fu 0 0)
set_option maxHeartbeats 2000000 in
theorem tc_boundAlready (G : nv_G) (h : nv_Hp) (k1 : Nat) (hk1 : nv_A 9 k1) (x2 : Int32) {r : Int32} (hf : (fc_boundAlready h k1 x2) = some r) : nv_Mt G 5 qX6_boundAlready [.ref 0, .ref k1, .int x2] (nv_s h) (some (.int r), nv_s h) := by
  refine nv_of (by decide +kernel) (fun ad => Nat.le_of_ble_eq_true rfl) (Nat.le_refl _) (Nat.le_of_ble_eq_true rfl) ?_
  show nv_E G 5 qX6_boundAlready 0 [some (.ref 0), some (.ref k1), some (.int x2), none, none] [] (nv_s h) (some (.int r), nv_s h)
  unfold fc_boundAlready at hf
  refine nv_k dX6_boundAlready_0 ?_
  refine nv_iS dX6_boundAlready_1 (by decide) rfl rfl ?_
  refine nv_k dX6_boundAlready_2 ?_
  refine nv_iS dX6_boundAlready_3 (by decide) rfl rfl ?_
  exact tc_boundAlready_5 G _ _ hk1 _ _ _ _ _ hf
/-! WhoseName.reachedByLetter -/
theorem dX6_reachedByLetter_0 : nv_daload qX6_reachedByLetter 0 0 1 := Or.inr ⟨0, rfl, by decide +kernel, rfl⟩
theorem dX6_reachedByLetter_1 : nv_dc qX6_reachedByLetter 1 (.getfield 39) 3 4 := ⟨by decide +kernel, rfl⟩
theorem dX6_reachedByLetter_4 : nv_diload qX6_reachedByLetter 4 1 5 := Or.inr ⟨1, rfl, by decide +kernel, rfl⟩
theorem dX6_reachedByLetter_5 : nv_dc qX6_reachedByLetter 5 (.aaload) 1 6 := ⟨by decide +kernel, rfl⟩
theorem dX6_reachedByLetter_6 : nv_dc qX6_reachedByLetter 6 (.getfield 231) 3 9 := ⟨by decide +kernel, rfl⟩
theorem dX6_reachedByLetter_9 : nv_diload qX6_reachedByLetter 9 4 11 := Or.inl ⟨by decide +kernel, rfl⟩
theorem dX6_reachedByLetter_11 : nv_dc qX6_reachedByLetter 11 (.invokestatic 273) 3 14 := ⟨by decide +kernel, rfl⟩
theorem dX6_reachedByLetter_14 : nv_distore qX6_reachedByLetter 14 5 16 := Or.inl ⟨by decide +kernel, rfl⟩
theorem dX6_reachedByLetter_16 : nv_dk qX6_reachedByLetter 16 0 17 := Or.inl ⟨0, ⟨by decide +kernel, rfl⟩, by decide⟩
theorem dX6_reachedByLetter_17 : nv_distore qX6_reachedByLetter 17 6 19 := Or.inl ⟨by decide +kernel, rfl⟩
theorem dX6_reachedByLetter_19 : nv_dk qX6_reachedByLetter 19 0 20 := Or.inl ⟨0, ⟨by decide +kernel, rfl⟩, by decide⟩
theorem dX6_reachedByLetter_20 : nv_distore qX6_reachedByLetter 20 7 22 := Or.inl ⟨by decide +kernel, rfl⟩
theorem dX6_reachedByLetter_22 : nv_diload qX6_reachedByLetter 22 7 24 := Or.inl ⟨by decide +kernel, rfl⟩
theorem dX6_reachedByLetter_24 : nv_daload qX6_reachedByLetter 24 0 25 := Or.inr ⟨0, rfl, by decide +kernel, rfl⟩
theorem dX6_reachedByLetter_25 : nv_dc qX6_reachedByLetter 25 (.getfield 156) 3 28 := ⟨by decide +kernel, rfl⟩
theorem dX6_reachedByLetter_28 : nv_dic qX6_reachedByLetter 28 .ge 87 31 := ⟨59, by decide +kernel, by decide, rfl⟩
theorem dX6_reachedByLetter_31 : nv_diload qX6_reachedByLetter 31 2 32 := Or.inr ⟨2, rfl, by decide +kernel, rfl⟩
theorem dX6_reachedByLetter_32 : nv_diload qX6_reachedByLetter 32 7 34 := Or.inl ⟨by decide +kernel, rfl⟩
theorem dX6_reachedByLetter_34 : nv_dc qX6_reachedByLetter 34 (.invokestatic 265) 3 37 := ⟨by decide +kernel, rfl⟩
theorem dX6_reachedByLetter_37 : nv_dif qX6_reachedByLetter 37 .eq 81 40 := ⟨44, by decide +kernel, by decide, rfl⟩
theorem dX6_reachedByLetter_40 : nv_diload qX6_reachedByLetter 40 3 41 := Or.inr ⟨3, rfl, by decide +kernel, rfl⟩
theorem dX6_reachedByLetter_41 : nv_daload qX6_reachedByLetter 41 0 42 := Or.inr ⟨0, rfl, by decide +kernel, rfl⟩
theorem dX6_reachedByLetter_42 : nv_dc qX6_reachedByLetter 42 (.getfield 27) 3 45 := ⟨by decide +kernel, rfl⟩
theorem dX6_reachedByLetter_45 : nv_diload qX6_reachedByLetter 45 7 47 := Or.inl ⟨by decide +kernel, rfl⟩
theorem dX6_reachedByLetter_47 : nv_dc qX6_reachedByLetter 47 (.aaload) 1 48 := ⟨by decide +kernel, rfl⟩
theorem dX6_reachedByLetter_48 : nv_dc qX6_reachedByLetter 48 (.getfield 171) 3 51 := ⟨by decide +kernel, rfl⟩
theorem dX6_reachedByLetter_51 : nv_dc qX6_reachedByLetter 51 (.invokestatic 265) 3 54 := ⟨by decide +kernel, rfl⟩
theorem dX6_reachedByLetter_54 : nv_dif qX6_reachedByLetter 54 .eq 81 57 := ⟨27, by decide +kernel, by decide, rfl⟩
theorem dX6_reachedByLetter_57 : nv_daload qX6_reachedByLetter 57 0 58 := Or.inr ⟨0, rfl, by decide +kernel, rfl⟩
theorem dX6_reachedByLetter_58 : nv_dc qX6_reachedByLetter 58 (.getfield 27) 3 61 := ⟨by decide +kernel, rfl⟩
theorem dX6_reachedByLetter_61 : nv_diload qX6_reachedByLetter 61 7 63 := Or.inl ⟨by decide +kernel, rfl⟩
theorem dX6_reachedByLetter_63 : nv_dc qX6_reachedByLetter 63 (.aaload) 1 64 := ⟨by decide +kernel, rfl⟩
theorem dX6_reachedByLetter_64 : nv_dc qX6_reachedByLetter 64 (.getfield 174) 3 67 := ⟨by decide +kernel, rfl⟩
theorem dX6_reachedByLetter_67 : nv_diload qX6_reachedByLetter 67 5 69 := Or.inl ⟨by decide +kernel, rfl⟩
theorem dX6_reachedByLetter_69 : nv_dic qX6_reachedByLetter 69 .gt 81 72 := ⟨12, by decide +kernel, by decide, rfl⟩
theorem dX6_reachedByLetter_72 : nv_diload qX6_reachedByLetter 72 6 74 := Or.inl ⟨by decide +kernel, rfl⟩
theorem dX6_reachedByLetter_74 : nv_dk qX6_reachedByLetter 74 1 75 := Or.inl ⟨1, ⟨by decide +kernel, rfl⟩, by decide⟩
theorem dX6_reachedByLetter_75 : nv_diload qX6_reachedByLetter 75 7 77 := Or.inl ⟨by decide +kernel, rfl⟩
theorem dX6_reachedByLetter_77 : nv_dc qX6_reachedByLetter 77 (.ishl) 1 78 := ⟨by decide +kernel, rfl⟩
theorem dX6_reachedByLetter_78 : nv_dc qX6_reachedByLetter 78 (.ior) 1 79 := ⟨by decide +kernel, rfl⟩
theorem dX6_reachedByLetter_79 : nv_distore qX6_reachedByLetter 79 6 81 := Or.inl ⟨by decide +kernel, rfl⟩
theorem dX6_reachedByLetter_81 : nv_dc qX6_reachedByLetter 81 (.iinc 7 1) 3 84 := ⟨by decide +kernel, rfl⟩
theorem dX6_reachedByLetter_84 : nv_dgo qX6_reachedByLetter 84 22 := ⟨(-62), by decide +kernel, by decide⟩
theorem dX6_reachedByLetter_87 : nv_diload qX6_reachedByLetter 87 6 89 := Or.inl ⟨by decide +kernel, rfl⟩
theorem dX6_reachedByLetter_89 : decode qX6_reachedByLetter.2.1 89 = .ok (.ireturn, 1) := by decide +kernel
def fc_reachedByLetter_22 (h : nv_Hp) (x2 : Int32) (x3 : Int32) (x5 : Int32)  : Nat → Int32 → Int32 → Option (Int32)
  | 0, _, _ => none
  | n + 1, x6, x7 => (if (h 0 9) ≤ x7 then some x6 else (Option.bind ((if (fc_hasBit x2 x7) = true then (if nv_inb x7 10 = true then (if (fc_hasBit x3 (h (37 + x7.toNatClampNeg) 4)) = true then (if x5 < (h (37 + x7.toNatClampNeg) 5) then some (x6) else some ((x6 ||| (1 <<< (x7 &&& 31))))) else some (x6)) else none) else some (x6)) : Option (Int32)) fun u3 => (fc_reachedByLetter_22 h x2 x3 x5 n) u3 (x7 + 1)))
set_option maxHeartbeats 2000000 in
theorem tc_reachedByLetter_22 (G : nv_G) (h : nv_Hp) (x2 : Int32) (x3 : Int32) (x5 : Int32)  : ∀ (n : Nat) (x6 : Int32) (x7 : Int32) (o1 o4 : Option Value) (r : Int32), fc_reachedByLetter_22 h x2 x3 x5 n x6 x7 = some r → nv_E G 1 qX6_reachedByLetter 22 [some (.ref 0), o1, some (.int x2), some (.int x3), o4, some (.int x5), some (.int x6), some (.int x7)] [] (nv_s h) (some (.int r), nv_s h) := by
  intro n
  induction n with
  | zero =>
    intro x6 x7 o1 o4 r hf
    rw [fc_reachedByLetter_22] at hf
    cases hf
  | succ n ih =>
    intro x6 x7 o1 o4 r hf
    rw [fc_reachedByLetter_22] at hf
    refine nv_iL dX6_reachedByLetter_22 rfl ?_
    refine nv_aL dX6_reachedByLetter_24 rfl ?_
    refine nv_tI lf_X6_156 dX6_reachedByLetter_25 ko_0 rfl ?_
    refine nv_icge dX6_reachedByLetter_28 (fun c1 => ?_) (fun c1 => ?_)
    · replace hf := nv_ip c1 hf
      refine nv_iL dX6_reachedByLetter_87 rfl ?_
      obtain rfl := Option.some.inj hf
      exact nv_ireturnI dX6_reachedByLetter_89 rfl
    · replace hf := nv_in c1 hf
      refine nv_iL dX6_reachedByLetter_31 rfl ?_
      refine nv_iL dX6_reachedByLetter_32 rfl ?_
      refine nv_cSi (tc_hasBit G h x2 x7) dX6_reachedByLetter_34 lm_X6_265 y_qX6_hasBit rfl (by decide) rfl (Nat.le_of_ble_eq_true rfl) ?_
      refine nv_ifeqB dX6_reachedByLetter_37 (fun c4 => ?_) (fun c4 => ?_)
      · try simp only [if_pos c4, Option.bind_some] at hf
        refine nv_iL dX6_reachedByLetter_40 rfl ?_
        refine nv_aL dX6_reachedByLetter_41 rfl ?_
        refine nv_tR lf_X6_27 dX6_reachedByLetter_42 ko_0 rfl ?_
        refine nv_iL dX6_reachedByLetter_45 rfl ?_
        have g5 : nv_inb x7 10 = true := by
          by_cases g5 : nv_inb x7 10 = true
          · exact g5
          · exfalso; simp [if_neg g5] at hf
        simp only [if_pos g5, Option.bind_some] at hf
        refine nv_aR dX6_reachedByLetter_47 kr_4 ⟨_, rfl⟩ g5 (nv_q1 _ _) ?_
        refine nv_gI lf_X6_171 dX6_reachedByLetter_48 (nv_o2 g5) rfl ?_
        refine nv_cSi (tc_hasBit G h x3 (h (37 + x7.toNatClampNeg) 4)) dX6_reachedByLetter_51 lm_X6_265 y_qX6_hasBit rfl (by decide) rfl (Nat.le_of_ble_eq_true rfl) ?_
        refine nv_ifeqB dX6_reachedByLetter_54 (fun c6 => ?_) (fun c6 => ?_)
        · try simp only [if_pos c6, Option.bind_some] at hf
          refine nv_aL dX6_reachedByLetter_57 rfl ?_
          refine nv_tR lf_X6_27 dX6_reachedByLetter_58 ko_0 rfl ?_
          refine nv_iL dX6_reachedByLetter_61 rfl ?_
          refine nv_aR dX6_reachedByLetter_63 kr_4 ⟨_, rfl⟩ g5 (nv_q1 _ _) ?_
          refine nv_gI lf_X6_174 dX6_reachedByLetter_64 (nv_o2 g5) rfl ?_
          refine nv_iL dX6_reachedByLetter_67 rfl ?_
          refine nv_icgt dX6_reachedByLetter_69 (fun c7 => ?_) (fun c7 => ?_)
          · try simp only [if_pos c7, Option.bind_some] at hf
            refine nv_inc dX6_reachedByLetter_81 rfl (v := 1) (by decide) (by decide) rfl rfl ?_
            refine nv_goto dX6_reachedByLetter_84 ?_
            exact ih _ _ _ _ _ hf
          · try simp only [if_neg c7, Option.bind_some] at hf
            refine nv_iL dX6_reachedByLetter_72 rfl ?_
            refine nv_k dX6_reachedByLetter_74 ?_
            refine nv_iL dX6_reachedByLetter_75 rfl ?_
            refine nv_ishl dX6_reachedByLetter_77 ?_
            refine nv_ior dX6_reachedByLetter_78 ?_
            refine nv_iS dX6_reachedByLetter_79 (by decide) rfl rfl ?_
            refine nv_inc dX6_reachedByLetter_81 rfl (v := 1) (by decide) (by decide) rfl rfl ?_
            refine nv_goto dX6_reachedByLetter_84 ?_
            exact ih _ _ _ _ _ hf
        · try simp only [if_neg c6, Option.bind_some] at hf
          refine nv_inc dX6_reachedByLetter_81 rfl (v := 1) (by decide) (by decide) rfl rfl ?_
          refine nv_goto dX6_reachedByLetter_84 ?_
          exact ih _ _ _ _ _ hf
      · try simp only [if_neg c4, Option.bind_some] at hf
        refine nv_inc dX6_reachedByLetter_81 rfl (v := 1) (by decide) (by decide) rfl rfl ?_
        refine nv_goto dX6_reachedByLetter_84 ?_
        exact ih _ _ _ _ _ hf
def fc_reachedByLetter (h : nv_Hp) (x1 : Int32) (x2 : Int32) (x3 : Int32) (x4 : Int32) : Option (Int32) := (nv_lt ((fc_stretched h ((59 + 3 * x1.toNatClampNeg) + 2) x4)) fun v1 => (fc_reachedByLetter_22 h x2 x3 v1 nv_fu 0 0))
set_option maxHeartbeats 2000000 in
theorem tc_reachedByLetter (G : nv_G) (h : nv_Hp) (x1 : Int32) (hx1 : nv_inb x1 2 = true) (x2 : Int32) (x3 : Int32) (x4 : Int32) {r : Int32} (hf : (fc_reachedByLetter h x1 x2 x3 x4) = some r) : nv_Mt G 1 qX6_reachedByLetter [.ref 0, .int x1, .int x2, .int x3, .int x4] (nv_s h) (some (.int r), nv_s h) := by
  refine nv_of (by decide +kernel) (fun ad => Nat.le_of_ble_eq_true rfl) (Nat.le_refl _) (Nat.le_of_ble_eq_true rfl) ?_
  show nv_E G 1 qX6_reachedByLetter 0 [some (.ref 0), some (.int x1), some (.int x2), some (.int x3), some (.int x4), none, none, none] [] (nv_s h) (some (.int r), nv_s h)
  unfold fc_reachedByLetter at hf
  refine nv_aL dX6_reachedByLetter_0 rfl ?_
  refine nv_tR lf_X6_39 dX6_reachedByLetter_1 ko_0 rfl ?_
  refine nv_iL dX6_reachedByLetter_4 rfl ?_
  refine nv_aR dX6_reachedByLetter_5 kr_6 ⟨_, rfl⟩ hx1 rfl ?_
  refine nv_gR (t := ((59 + 3 * x1.toNatClampNeg) + 2)) lf_X6_231 dX6_reachedByLetter_6 (nv_o3 hx1) rfl ?_
  refine nv_iL dX6_reachedByLetter_9 rfl ?_
  refine nv_cSi (tc_stretched G h ((59 + 3 * x1.toNatClampNeg) + 2) (nv_o3w (nv_o3 hx1)) x4) dX6_reachedByLetter_11 lm_X6_273 y_qX6_stretched rfl (by decide) rfl (Nat.le_of_ble_eq_true rfl) ?_
  obtain ⟨v1, ev1, hf⟩ := nv_ltX hf
  rw [ev1]
  clear ev1
  refine nv_iS dX6_reachedByLetter_14 (by decide) rfl rfl ?_
  refine nv_k dX6_reachedByLetter_16 ?_
  refine nv_iS dX6_reachedByLetter_17 (by decide) rfl rfl ?_
  refine nv_k dX6_reachedByLetter_19 ?_
  refine nv_iS dX6_reachedByLetter_20 (by decide) rfl rfl ?_
  exact tc_reachedByLetter_22 G _ _ _ _ _ _ _ _ _ _ hf
/-! WhoseName.letter -/
theorem dX6_letter_0 : nv_diload qX6_letter 0 1 1 := Or.inr ⟨1, rfl, by decide +kernel, rfl⟩
theorem dX6_letter_1 : nv_dc qX6_letter 1 (.invokestatic 70) 3 4 := ⟨by decide +kernel, rfl⟩
theorem dX6_letter_4 : nv_dif qX6_letter 4 .eq 27 7 := ⟨23, by decide +kernel, by decide, rfl⟩
theorem dX6_letter_7 : nv_diload qX6_letter 7 2 8 := Or.inr ⟨2, rfl, by decide +kernel, rfl⟩
theorem dX6_letter_8 : nv_dc qX6_letter 8 (.invokestatic 70) 3 11 := ⟨by decide +kernel, rfl⟩
theorem dX6_letter_11 : nv_dif qX6_letter 11 .eq 27 14 := ⟨16, by decide +kernel, by decide, rfl⟩
theorem dX6_letter_14 : nv_diload qX6_letter 14 1 15 := Or.inr ⟨1, rfl, by decide +kernel, rfl⟩
theorem dX6_letter_15 : nv_diload qX6_letter 15 2 16 := Or.inr ⟨2, rfl, by decide +kernel, rfl⟩
theorem dX6_letter_16 : nv_dic qX6_letter 16 .eq 27 19 := ⟨11, by decide +kernel, by decide, rfl⟩
theorem dX6_letter_19 : nv_diload qX6_letter 19 4 21 := Or.inl ⟨by decide +kernel, rfl⟩
theorem dX6_letter_21 : nv_dc qX6_letter 21 (.invokestatic 129) 3 24 := ⟨by decide +kernel, rfl⟩
theorem dX6_letter_24 : nv_dif qX6_letter 24 .ne 30 27 := ⟨6, by decide +kernel, by decide, rfl⟩
theorem dX6_letter_27 : nv_dk qX6_letter 27 (-2) 29 := Or.inr (Or.inl ⟨(-2), ⟨by decide +kernel, rfl⟩, by decide⟩)
theorem dX6_letter_29 : decode qX6_letter.2.1 29 = .ok (.ireturn, 1) := by decide +kernel
theorem dX6_letter_30 : nv_daload qX6_letter 30 0 31 := Or.inr ⟨0, rfl, by decide +kernel, rfl⟩
theorem dX6_letter_31 : nv_diload qX6_letter 31 1 32 := Or.inr ⟨1, rfl, by decide +kernel, rfl⟩
theorem dX6_letter_32 : nv_diload qX6_letter 32 2 33 := Or.inr ⟨2, rfl, by decide +kernel, rfl⟩
theorem dX6_letter_33 : nv_dc qX6_letter 33 (.invokevirtual 347) 3 36 := ⟨by decide +kernel, rfl⟩
theorem dX6_letter_36 : nv_distore qX6_letter 36 5 38 := Or.inl ⟨by decide +kernel, rfl⟩
theorem dX6_letter_38 : nv_diload qX6_letter 38 3 39 := Or.inr ⟨3, rfl, by decide +kernel, rfl⟩
theorem dX6_letter_39 : nv_diload qX6_letter 39 5 41 := Or.inl ⟨by decide +kernel, rfl⟩
theorem dX6_letter_41 : nv_dk qX6_letter 41 (-1) 42 := Or.inl ⟨(-1), ⟨by decide +kernel, rfl⟩, by decide⟩
theorem dX6_letter_42 : nv_dc qX6_letter 42 (.ixor) 1 43 := ⟨by decide +kernel, rfl⟩
theorem dX6_letter_43 : nv_dc qX6_letter 43 (.iand) 1 44 := ⟨by decide +kernel, rfl⟩
theorem dX6_letter_44 : nv_dif qX6_letter 44 .eq 50 47 := ⟨6, by decide +kernel, by decide, rfl⟩
theorem dX6_letter_47 : nv_dk qX6_letter 47 (-2) 49 := Or.inr (Or.inl ⟨(-2), ⟨by decide +kernel, rfl⟩, by decide⟩)
theorem dX6_letter_49 : decode qX6_letter.2.1 49 = .ok (.ireturn, 1) := by decide +kernel
theorem dX6_letter_50 : nv_daload qX6_letter 50 0 51 := Or.inr ⟨0, rfl, by decide +kernel, rfl⟩
theorem dX6_letter_51 : nv_daload qX6_letter 51 0 52 := Or.inr ⟨0, rfl, by decide +kernel, rfl⟩
theorem dX6_letter_52 : nv_dc qX6_letter 52 (.getfield 39) 3 55 := ⟨by decide +kernel, rfl⟩
theorem dX6_letter_55 : nv_dk qX6_letter 55 0 56 := Or.inl ⟨0, ⟨by decide +kernel, rfl⟩, by decide⟩
theorem dX6_letter_56 : nv_dc qX6_letter 56 (.aaload) 1 57 := ⟨by decide +kernel, rfl⟩
theorem dX6_letter_57 : nv_dc qX6_letter 57 (.getfield 231) 3 60 := ⟨by decide +kernel, rfl⟩
theorem dX6_letter_60 : nv_diload qX6_letter 60 5 62 := Or.inl ⟨by decide +kernel, rfl⟩
theorem dX6_letter_62 : nv_dc qX6_letter 62 (.invokevirtual 350) 3 65 := ⟨by decide +kernel, rfl⟩
theorem dX6_letter_65 : nv_distore qX6_letter 65 6 67 := Or.inl ⟨by decide +kernel, rfl⟩
theorem dX6_letter_67 : nv_daload qX6_letter 67 0 68 := Or.inr ⟨0, rfl, by decide +kernel, rfl⟩
theorem dX6_letter_68 : nv_daload qX6_letter 68 0 69 := Or.inr ⟨0, rfl, by decide +kernel, rfl⟩
theorem dX6_letter_69 : nv_dc qX6_letter 69 (.getfield 39) 3 72 := ⟨by decide +kernel, rfl⟩
theorem dX6_letter_72 : nv_dk qX6_letter 72 1 73 := Or.inl ⟨1, ⟨by decide +kernel, rfl⟩, by decide⟩
theorem dX6_letter_73 : nv_dc qX6_letter 73 (.aaload) 1 74 := ⟨by decide +kernel, rfl⟩
theorem dX6_letter_74 : nv_dc qX6_letter 74 (.getfield 231) 3 77 := ⟨by decide +kernel, rfl⟩
theorem dX6_letter_77 : nv_diload qX6_letter 77 5 79 := Or.inl ⟨by decide +kernel, rfl⟩
theorem dX6_letter_79 : nv_dc qX6_letter 79 (.invokevirtual 350) 3 82 := ⟨by decide +kernel, rfl⟩
theorem dX6_letter_82 : nv_distore qX6_letter 82 7 84 := Or.inl ⟨by decide +kernel, rfl⟩
theorem dX6_letter_84 : nv_diload qX6_letter 84 6 86 := Or.inl ⟨by decide +kernel, rfl⟩
theorem dX6_letter_86 : nv_diload qX6_letter 86 7 88 := Or.inl ⟨by decide +kernel, rfl⟩
theorem dX6_letter_88 : nv_dc qX6_letter 88 (.ior) 1 89 := ⟨by decide +kernel, rfl⟩
theorem dX6_letter_89 : nv_diload qX6_letter 89 3 90 := Or.inr ⟨3, rfl, by decide +kernel, rfl⟩
theorem dX6_letter_90 : nv_dk qX6_letter 90 (-1) 91 := Or.inl ⟨(-1), ⟨by decide +kernel, rfl⟩, by decide⟩
theorem dX6_letter_91 : nv_dc qX6_letter 91 (.ixor) 1 92 := ⟨by decide +kernel, rfl⟩
theorem dX6_letter_92 : nv_dc qX6_letter 92 (.iand) 1 93 := ⟨by decide +kernel, rfl⟩
theorem dX6_letter_93 : nv_dif qX6_letter 93 .eq 98 96 := ⟨5, by decide +kernel, by decide, rfl⟩
theorem dX6_letter_96 : nv_dk qX6_letter 96 (-1) 97 := Or.inl ⟨(-1), ⟨by decide +kernel, rfl⟩, by decide⟩
theorem dX6_letter_97 : decode qX6_letter.2.1 97 = .ok (.ireturn, 1) := by decide +kernel
theorem dX6_letter_98 : nv_dk qX6_letter 98 0 99 := Or.inl ⟨0, ⟨by decide +kernel, rfl⟩, by decide⟩
theorem dX6_letter_99 : nv_distore qX6_letter 99 8 101 := Or.inl ⟨by decide +kernel, rfl⟩
theorem dX6_letter_101 : nv_diload qX6_letter 101 8 103 := Or.inl ⟨by decide +kernel, rfl⟩
theorem dX6_letter_103 : nv_dc qX6_letter 103 (.getstatic 353) 3 106 := ⟨by decide +kernel, rfl⟩
theorem dX6_letter_106 : nv_dc qX6_letter 106 (.arraylength) 1 107 := ⟨by decide +kernel, rfl⟩
theorem dX6_letter_107 : nv_dic qX6_letter 107 .ge 194 110 := ⟨87, by decide +kernel, by decide, rfl⟩
theorem dX6_letter_110 : nv_dk qX6_letter 110 0 111 := Or.inl ⟨0, ⟨by decide +kernel, rfl⟩, by decide⟩
theorem dX6_letter_111 : nv_distore qX6_letter 111 9 113 := Or.inl ⟨by decide +kernel, rfl⟩
theorem dX6_letter_113 : nv_diload qX6_letter 113 9 115 := Or.inl ⟨by decide +kernel, rfl⟩
theorem dX6_letter_115 : nv_dk qX6_letter 115 500 118 := Or.inr (Or.inr ⟨500, ⟨by decide +kernel, rfl⟩, by decide⟩)
theorem dX6_letter_118 : nv_dic qX6_letter 118 .gt 188 121 := ⟨70, by decide +kernel, by decide, rfl⟩
theorem dX6_letter_121 : nv_diload qX6_letter 121 6 123 := Or.inl ⟨by decide +kernel, rfl⟩
theorem dX6_letter_123 : nv_daload qX6_letter 123 0 124 := Or.inr ⟨0, rfl, by decide +kernel, rfl⟩
theorem dX6_letter_124 : nv_dk qX6_letter 124 0 125 := Or.inl ⟨0, ⟨by decide +kernel, rfl⟩, by decide⟩
theorem dX6_letter_125 : nv_diload qX6_letter 125 5 127 := Or.inl ⟨by decide +kernel, rfl⟩
theorem dX6_letter_127 : nv_dc qX6_letter 127 (.getstatic 353) 3 130 := ⟨by decide +kernel, rfl⟩
theorem dX6_letter_130 : nv_diload qX6_letter 130 8 132 := Or.inl ⟨by decide +kernel, rfl⟩
theorem dX6_letter_132 : nv_dc qX6_letter 132 (.iaload) 1 133 := ⟨by decide +kernel, rfl⟩
theorem dX6_letter_133 : nv_diload qX6_letter 133 9 135 := Or.inl ⟨by decide +kernel, rfl⟩
theorem dX6_letter_135 : nv_dc qX6_letter 135 (.invokevirtual 356) 3 138 := ⟨by decide +kernel, rfl⟩
theorem dX6_letter_138 : nv_dc qX6_letter 138 (.ior) 1 139 := ⟨by decide +kernel, rfl⟩
theorem dX6_letter_139 : nv_diload qX6_letter 139 3 140 := Or.inr ⟨3, rfl, by decide +kernel, rfl⟩
theorem dX6_letter_140 : nv_dic qX6_letter 140 .ne 182 143 := ⟨42, by decide +kernel, by decide, rfl⟩
theorem dX6_letter_143 : nv_diload qX6_letter 143 7 145 := Or.inl ⟨by decide +kernel, rfl⟩
theorem dX6_letter_145 : nv_daload qX6_letter 145 0 146 := Or.inr ⟨0, rfl, by decide +kernel, rfl⟩
theorem dX6_letter_146 : nv_dk qX6_letter 146 1 147 := Or.inl ⟨1, ⟨by decide +kernel, rfl⟩, by decide⟩
theorem dX6_letter_147 : nv_diload qX6_letter 147 5 149 := Or.inl ⟨by decide +kernel, rfl⟩
theorem dX6_letter_149 : nv_dc qX6_letter 149 (.getstatic 353) 3 152 := ⟨by decide +kernel, rfl⟩
theorem dX6_letter_152 : nv_diload qX6_letter 152 8 154 := Or.inl ⟨by decide +kernel, rfl⟩
theorem dX6_letter_154 : nv_dc qX6_letter 154 (.iaload) 1 155 := ⟨by decide +kernel, rfl⟩
theorem dX6_letter_155 : nv_diload qX6_letter 155 9 157 := Or.inl ⟨by decide +kernel, rfl⟩
theorem dX6_letter_157 : nv_dc qX6_letter 157 (.invokevirtual 356) 3 160 := ⟨by decide +kernel, rfl⟩
theorem dX6_letter_160 : nv_dc qX6_letter 160 (.ior) 1 161 := ⟨by decide +kernel, rfl⟩
theorem dX6_letter_161 : nv_diload qX6_letter 161 3 162 := Or.inr ⟨3, rfl, by decide +kernel, rfl⟩
theorem dX6_letter_162 : nv_dic qX6_letter 162 .ne 182 165 := ⟨20, by decide +kernel, by decide, rfl⟩
theorem dX6_letter_165 : nv_diload qX6_letter 165 4 167 := Or.inl ⟨by decide +kernel, rfl⟩
theorem dX6_letter_167 : nv_dif qX6_letter 167 .ne 179 170 := ⟨12, by decide +kernel, by decide, rfl⟩
theorem dX6_letter_170 : nv_dc qX6_letter 170 (.getstatic 353) 3 173 := ⟨by decide +kernel, rfl⟩
theorem dX6_letter_173 : nv_diload qX6_letter 173 8 175 := Or.inl ⟨by decide +kernel, rfl⟩
theorem dX6_letter_175 : nv_dc qX6_letter 175 (.iaload) 1 176 := ⟨by decide +kernel, rfl⟩
theorem dX6_letter_176 : nv_dgo qX6_letter 176 181 := ⟨5, by decide +kernel, by decide⟩
theorem dX6_letter_179 : nv_diload qX6_letter 179 9 181 := Or.inl ⟨by decide +kernel, rfl⟩
theorem dX6_letter_181 : decode qX6_letter.2.1 181 = .ok (.ireturn, 1) := by decide +kernel
theorem dX6_letter_182 : nv_dc qX6_letter 182 (.iinc 9 10) 3 185 := ⟨by decide +kernel, rfl⟩
theorem dX6_letter_185 : nv_dgo qX6_letter 185 113 := ⟨(-72), by decide +kernel, by decide⟩
theorem dX6_letter_188 : nv_dc qX6_letter 188 (.iinc 8 1) 3 191 := ⟨by decide +kernel, rfl⟩
theorem dX6_letter_191 : nv_dgo qX6_letter 191 101 := ⟨(-90), by decide +kernel, by decide⟩
theorem dX6_letter_194 : nv_dk qX6_letter 194 (-1) 195 := Or.inl ⟨(-1), ⟨by decide +kernel, rfl⟩, by decide⟩
theorem dX6_letter_195 : decode qX6_letter.2.1 195 = .ok (.ireturn, 1) := by decide +kernel
def fc_letter_113 (h : nv_Hp) (x3 : Int32) (x4 : Int32) (x5 : Int32) (x6 : Int32) (x7 : Int32) (x8 : Int32) (rec101 : Int32 → Option (Int32)) : Nat → Int32 → Option (Int32)
  | 0, _ => none
  | n + 1, x9 => (if 500 < x9 then (rec101 (x8 + 1)) else (if nv_inb x8 15 = true then (Option.bind (fc_reachedByLetter h 0 x5 (List.getD [1, 2, 4, 8, 3, 5, 6, 9, 10, 12, 7, 11, 13, 14, 15] x8.toNatClampNeg 0) x9) fun q3 => (if (x6 ||| q3) = x3 then (Option.bind (fc_reachedByLetter h 1 x5 (List.getD [1, 2, 4, 8, 3, 5, 6, 9, 10, 12, 7, 11, 13, 14, 15] x8.toNatClampNeg 0) x9) fun q5 => (if (x7 ||| q5) = x3 then (if x4 = 0 then some (List.getD [1, 2, 4, 8, 3, 5, 6, 9, 10, 12, 7, 11, 13, 14, 15] x8.toNatClampNeg 0) else some x9) else ((fc_letter_113 h x3 x4 x5 x6 x7 x8 rec101 n) (x9 + 10)))) else ((fc_letter_113 h x3 x4 x5 x6 x7 x8 rec101 n) (x9 + 10)))) else none))
set_option maxHeartbeats 2000000 in
theorem tc_letter_113 (G : nv_G) (h : nv_Hp) (x3 : Int32) (x4 : Int32) (x5 : Int32) (x6 : Int32) (x7 : Int32) (x8 : Int32) (rec101 : Int32 → Option (Int32)) (hrec101 : ∀ (x8 : Int32) (o1 o2 o9 : Option Value) (r : Int32), rec101 x8 = some r → nv_E G 6 qX6_letter 101 [some (.ref 0), o1, o2, some (.int x3), some (.int x4), some (.int x5), some (.int x6), some (.int x7), some (.int x8), o9] [] (nv_s h) (some (.int r), nv_s h)) : ∀ (n : Nat) (x9 : Int32) (o1 o2 : Option Value) (r : Int32), fc_letter_113 h x3 x4 x5 x6 x7 x8 rec101 n x9 = some r → nv_E G 6 qX6_letter 113 [some (.ref 0), o1, o2, some (.int x3), some (.int x4), some (.int x5), some (.int x6), some (.int x7), some (.int x8), some (.int x9)] [] (nv_s h) (some (.int r), nv_s h) := by
  intro n
  induction n with
  | zero =>
    intro x9 o1 o2 r hf
    rw [fc_letter_113] at hf
    cases hf
  | succ n ih =>
    intro x9 o1 o2 r hf
    rw [fc_letter_113] at hf
    refine nv_iL dX6_letter_113 rfl ?_
    refine nv_k dX6_letter_115 ?_
    refine nv_icgt dX6_letter_118 (fun c1 => ?_) (fun c1 => ?_)
    · replace hf := nv_ip c1 hf
      refine nv_inc dX6_letter_188 rfl (v := 1) (by decide) (by decide) rfl rfl ?_
      refine nv_goto dX6_letter_191 ?_
      exact hrec101 _ _ _ _ _ hf
    · replace hf := nv_in c1 hf
      refine nv_iL dX6_letter_121 rfl ?_
      refine nv_aL dX6_letter_123 rfl ?_
      refine nv_k dX6_letter_124 ?_
      refine nv_iL dX6_letter_125 rfl ?_
      refine nv_gets (i := 3) dX6_letter_127 rfl ls_X6_353 ?_
      refine nv_iL dX6_letter_130 rfl ?_
      obtain ⟨g2, hf⟩ := nv_gd hf
      refine nv_ialdS (i := 3) dX6_letter_132 rfl g2 ?_
      refine nv_iL dX6_letter_133 rfl ?_
      obtain ⟨q3, hq3, hf⟩ := nv_bd hf
      refine nv_cVi (tc_reachedByLetter G h 0 (by decide) x5 (List.getD [1, 2, 4, 8, 3, 5, 6, 9, 10, 12, 7, 11, 13, 14, 15] x8.toNatClampNeg 0) x9 hq3) dX6_letter_135 lm_X6_356 y_qX6_reachedByLetter ko_0 rfl rfl (by decide) rfl (Nat.le_of_ble_eq_true rfl) ?_
      refine nv_ior dX6_letter_138 ?_
      refine nv_iL dX6_letter_139 rfl ?_
      refine nv_icne dX6_letter_140 (fun c4 => ?_) (fun c4 => ?_)
      · replace hf := nv_ip c4 hf
        refine nv_iL dX6_letter_143 rfl ?_
        refine nv_aL dX6_letter_145 rfl ?_
        refine nv_k dX6_letter_146 ?_
        refine nv_iL dX6_letter_147 rfl ?_
        refine nv_gets (i := 3) dX6_letter_149 rfl ls_X6_353 ?_
        refine nv_iL dX6_letter_152 rfl ?_
        refine nv_ialdS (i := 3) dX6_letter_154 rfl g2 ?_
        refine nv_iL dX6_letter_155 rfl ?_
        obtain ⟨q5, hq5, hf⟩ := nv_bd hf
        refine nv_cVi (tc_reachedByLetter G h 1 (by decide) x5 (List.getD [1, 2, 4, 8, 3, 5, 6, 9, 10, 12, 7, 11, 13, 14, 15] x8.toNatClampNeg 0) x9 hq5) dX6_letter_157 lm_X6_356 y_qX6_reachedByLetter ko_0 rfl rfl (by decide) rfl (Nat.le_of_ble_eq_true rfl) ?_
        refine nv_ior dX6_letter_160 ?_
        refine nv_iL dX6_letter_161 rfl ?_
        refine nv_icne dX6_letter_162 (fun c6 => ?_) (fun c6 => ?_)
        · replace hf := nv_ip c6 hf
          refine nv_iL dX6_letter_165 rfl ?_
          refine nv_ifne dX6_letter_167 (fun c7 => ?_) (fun c7 => ?_)
          · replace hf := nv_ip c7 hf
            refine nv_gets (i := 3) dX6_letter_170 rfl ls_X6_353 ?_
            refine nv_iL dX6_letter_173 rfl ?_
            refine nv_ialdS (i := 3) dX6_letter_175 rfl g2 ?_
            refine nv_goto dX6_letter_176 ?_
            obtain rfl := Option.some.inj hf
            exact nv_ireturnI dX6_letter_181 rfl
          · replace hf := nv_in c7 hf
            refine nv_iL dX6_letter_179 rfl ?_
            obtain rfl := Option.some.inj hf
            exact nv_ireturnI dX6_letter_181 rfl
        · replace hf := nv_in c6 hf
          refine nv_inc dX6_letter_182 rfl (v := 10) (by decide) (by decide) rfl rfl ?_
          refine nv_goto dX6_letter_185 ?_
          exact ih _ _ _ _ hf
      · replace hf := nv_in c4 hf
        refine nv_inc dX6_letter_182 rfl (v := 10) (by decide) (by decide) rfl rfl ?_
        refine nv_goto dX6_letter_185 ?_
        exact ih _ _ _ _ hf
def fc_letter_101 (h : nv_Hp) (x3 : Int32) (x4 : Int32) (x5 : Int32) (x6 : Int32) (x7 : Int32)  : Nat → Int32 → Option (Int32)
  | 0, _ => none
  | n + 1, x8 => (if 15 ≤ x8 then some (-1) else (fc_letter_113 h x3 x4 x5 x6 x7 x8 (fc_letter_101 h x3 x4 x5 x6 x7 n) nv_fu 0))
set_option maxHeartbeats 2000000 in
theorem tc_letter_101 (G : nv_G) (h : nv_Hp) (x3 : Int32) (x4 : Int32) (x5 : Int32) (x6 : Int32) (x7 : Int32)  : ∀ (n : Nat) (x8 : Int32) (o1 o2 o9 : Option Value) (r : Int32), fc_letter_101 h x3 x4 x5 x6 x7 n x8 = some r → nv_E G 6 qX6_letter 101 [some (.ref 0), o1, o2, some (.int x3), some (.int x4), some (.int x5), some (.int x6), some (.int x7), some (.int x8), o9] [] (nv_s h) (some (.int r), nv_s h) := by
  intro n
  induction n with
  | zero =>
    intro x8 o1 o2 o9 r hf
    rw [fc_letter_101] at hf
    cases hf
  | succ n ih =>
    intro x8 o1 o2 o9 r hf
    rw [fc_letter_101] at hf
    refine nv_iL dX6_letter_101 rfl ?_
    refine nv_gets (i := 3) dX6_letter_103 rfl ls_X6_353 ?_
    refine nv_alenS (i := 3) (v := 15) dX6_letter_106 rfl (by decide) ?_
    refine nv_icge dX6_letter_107 (fun c1 => ?_) (fun c1 => ?_)
    · replace hf := nv_ip c1 hf
      refine nv_k dX6_letter_194 ?_
      obtain rfl := Option.some.inj hf
      exact nv_ireturnI dX6_letter_195 rfl
    · replace hf := nv_in c1 hf
      refine nv_k dX6_letter_110 ?_
      refine nv_iS dX6_letter_111 (by decide) rfl rfl ?_
      exact tc_letter_113 G _ _ _ _ _ _ _ _ ih _ _ _ _ _ hf
def fc_letter (h : nv_Hp) (x1 : Int32) (x2 : Int32) (x3 : Int32) (x4 : Int32) : Option (Int32) := (if (fc_isPerson x1) = true then (if (fc_isPerson x2) = true then (if x1 = x2 then some (-2) else (if (fc_isFlag x4) = true then (Option.bind (fc_bargainsBetween h x1 x2) fun q5 => (if (x3 &&& (q5 ^^^ (-1))) = 0 then (Option.bind (fc_boundAlready h 61 q5) fun q7 => (Option.bind (fc_boundAlready h 64 q5) fun q8 => (if ((q7 ||| q8) &&& (x3 ^^^ (-1))) = 0 then (fc_letter_101 h x3 x4 q5 q7 q8 nv_fu 0) else some (-1)))) else some (-2))) else some (-2))) else some (-2)) else some (-2))
set_option maxHeartbeats 2000000 in
theorem tc_letter (G : nv_G) (h : nv_Hp) (x1 : Int32) (x2 : Int32) (x3 : Int32) (x4 : Int32) {r : Int32} (hf : (fc_letter h x1 x2 x3 x4) = some r) : nv_Mt G 6 qX6_letter [.ref 0, .int x1, .int x2, .int x3, .int x4] (nv_s h) (some (.int r), nv_s h) := by
  refine nv_of (by decide +kernel) (fun ad => Nat.le_of_ble_eq_true rfl) (Nat.le_refl _) (Nat.le_of_ble_eq_true rfl) ?_
  show nv_E G 6 qX6_letter 0 [some (.ref 0), some (.int x1), some (.int x2), some (.int x3), some (.int x4), none, none, none, none, none] [] (nv_s h) (some (.int r), nv_s h)
  unfold fc_letter at hf
  refine nv_iL dX6_letter_0 rfl ?_
  refine nv_cSi (tc_isPerson G h x1) dX6_letter_1 lm_X6_70 y_qX6_isPerson rfl (by decide) rfl (Nat.le_of_ble_eq_true rfl) ?_
  refine nv_ifeqB dX6_letter_4 (fun c1 => ?_) (fun c1 => ?_)
  · replace hf := nv_ip c1 hf
    refine nv_iL dX6_letter_7 rfl ?_
    refine nv_cSi (tc_isPerson G h x2) dX6_letter_8 lm_X6_70 y_qX6_isPerson rfl (by decide) rfl (Nat.le_of_ble_eq_true rfl) ?_
    refine nv_ifeqB dX6_letter_11 (fun c2 => ?_) (fun c2 => ?_)
    · replace hf := nv_ip c2 hf
      refine nv_iL dX6_letter_14 rfl ?_
      refine nv_iL dX6_letter_15 rfl ?_
      refine nv_iceq dX6_letter_16 (fun c3 => ?_) (fun c3 => ?_)
      · replace hf := nv_ip c3 hf
        refine nv_k dX6_letter_27 ?_
        obtain rfl := Option.some.inj hf
        exact nv_ireturnI dX6_letter_29 rfl
      · replace hf := nv_in c3 hf
        refine nv_iL dX6_letter_19 rfl ?_
        refine nv_cSi (tc_isFlag G h x4) dX6_letter_21 lm_X6_129 y_qX6_isFlag rfl (by decide) rfl (Nat.le_of_ble_eq_true rfl) ?_
        refine nv_ifneB dX6_letter_24 (fun c4 => ?_) (fun c4 => ?_)
        · replace hf := nv_ip c4 hf
          refine nv_aL dX6_letter_30 rfl ?_
          refine nv_iL dX6_letter_31 rfl ?_
          refine nv_iL dX6_letter_32 rfl ?_
          obtain ⟨q5, hq5, hf⟩ := nv_bd hf
          refine nv_cVi (tc_bargainsBetween G h x1 x2 hq5) dX6_letter_33 lm_X6_347 y_qX6_bargainsBetween ko_0 rfl rfl (by decide) rfl (Nat.le_of_ble_eq_true rfl) ?_
          refine nv_iS dX6_letter_36 (by decide) rfl rfl ?_
          refine nv_iL dX6_letter_38 rfl ?_
          refine nv_iL dX6_letter_39 rfl ?_
          refine nv_k dX6_letter_41 ?_
          refine nv_ixor dX6_letter_42 ?_
          refine nv_iand dX6_letter_43 ?_
          refine nv_ifeq dX6_letter_44 (fun c6 => ?_) (fun c6 => ?_)
          · replace hf := nv_ip c6 hf
            refine nv_aL dX6_letter_50 rfl ?_
            refine nv_aL dX6_letter_51 rfl ?_
            refine nv_tR lf_X6_39 dX6_letter_52 ko_0 rfl ?_
            refine nv_k dX6_letter_55 ?_
            refine nv_aR (q := 59) dX6_letter_56 kr_6 ⟨_, rfl⟩ (by decide) (by decide) ?_
            refine nv_gR (t := 61) lf_X6_231 dX6_letter_57 (nv_o3j 0 (by decide)) rfl ?_
            refine nv_iL dX6_letter_60 rfl ?_
            obtain ⟨q7, hq7, hf⟩ := nv_bd hf
            refine nv_cVi (tc_boundAlready G h 61 (nv_o3w (nv_o3j 0 (by decide))) q5 hq7) dX6_letter_62 lm_X6_350 y_qX6_boundAlready ko_0 rfl rfl (by decide) rfl (Nat.le_of_ble_eq_true rfl) ?_
            refine nv_iS dX6_letter_65 (by decide) rfl rfl ?_
            refine nv_aL dX6_letter_67 rfl ?_
            refine nv_aL dX6_letter_68 rfl ?_
            refine nv_tR lf_X6_39 dX6_letter_69 ko_0 rfl ?_
            refine nv_k dX6_letter_72 ?_
            refine nv_aR (q := 62) dX6_letter_73 kr_6 ⟨_, rfl⟩ (by decide) (by decide) ?_
            refine nv_gR (t := 64) lf_X6_231 dX6_letter_74 (nv_o3j 1 (by decide)) rfl ?_
            refine nv_iL dX6_letter_77 rfl ?_
            obtain ⟨q8, hq8, hf⟩ := nv_bd hf
            refine nv_cVi (tc_boundAlready G h 64 (nv_o3w (nv_o3j 1 (by decide))) q5 hq8) dX6_letter_79 lm_X6_350 y_qX6_boundAlready ko_0 rfl rfl (by decide) rfl (Nat.le_of_ble_eq_true rfl) ?_
            refine nv_iS dX6_letter_82 (by decide) rfl rfl ?_
            refine nv_iL dX6_letter_84 rfl ?_
            refine nv_iL dX6_letter_86 rfl ?_
            refine nv_ior dX6_letter_88 ?_
            refine nv_iL dX6_letter_89 rfl ?_
            refine nv_k dX6_letter_90 ?_
            refine nv_ixor dX6_letter_91 ?_
            refine nv_iand dX6_letter_92 ?_
            refine nv_ifeq dX6_letter_93 (fun c9 => ?_) (fun c9 => ?_)
            · replace hf := nv_ip c9 hf
              refine nv_k dX6_letter_98 ?_
              refine nv_iS dX6_letter_99 (by decide) rfl rfl ?_
              exact tc_letter_101 G _ _ _ _ _ _ _ _ _ _ _ _ hf
            · replace hf := nv_in c9 hf
              refine nv_k dX6_letter_96 ?_
              obtain rfl := Option.some.inj hf
              exact nv_ireturnI dX6_letter_97 rfl
          · replace hf := nv_in c6 hf
            refine nv_k dX6_letter_47 ?_
            obtain rfl := Option.some.inj hf
            exact nv_ireturnI dX6_letter_49 rfl
        · replace hf := nv_in c4 hf
          refine nv_k dX6_letter_27 ?_
          obtain rfl := Option.some.inj hf
          exact nv_ireturnI dX6_letter_29 rfl
    · replace hf := nv_in c2 hf
      refine nv_k dX6_letter_27 ?_
      obtain rfl := Option.some.inj hf
      exact nv_ireturnI dX6_letter_29 rfl
  · replace hf := nv_in c1 hf
    refine nv_k dX6_letter_27 ?_
    obtain rfl := Option.some.inj hf
    exact nv_ireturnI dX6_letter_29 rfl
/-! WhoseName.isKind -/
theorem dX6_isKind_0 : nv_diload qX6_isKind 0 0 1 := Or.inr ⟨0, rfl, by decide +kernel, rfl⟩
theorem dX6_isKind_1 : nv_dk qX6_isKind 1 0 2 := Or.inl ⟨0, ⟨by decide +kernel, rfl⟩, by decide⟩
theorem dX6_isKind_2 : nv_dk qX6_isKind 2 2 3 := Or.inl ⟨2, ⟨by decide +kernel, rfl⟩, by decide⟩
theorem dX6_isKind_3 : nv_dc qX6_isKind 3 (.invokestatic 74) 3 6 := ⟨by decide +kernel, rfl⟩
theorem dX6_isKind_6 : decode qX6_isKind.2.1 6 = .ok (.ireturn, 1) := by decide +kernel
def fc_isKind (x0 : Int32) : Bool := (fc_isWithin x0 0 2)
set_option maxHeartbeats 2000000 in
theorem tc_isKind (G : nv_G) (h : nv_Hp) (x0 : Int32) : nv_Mt G 1 qX6_isKind [.int x0] (nv_s h) (some (.int (nv_bi (fc_isKind x0))), nv_s h) := by
  refine nv_of (by decide +kernel) (fun ad => Nat.le_of_ble_eq_true rfl) (Nat.le_refl _) (Nat.le_of_ble_eq_true rfl) ?_
  show nv_E G 1 qX6_isKind 0 [some (.int x0)] [] (nv_s h) (some (.int (nv_bi (fc_isKind x0))), nv_s h)
  generalize hf : (fc_isKind x0) = r
  unfold fc_isKind at hf
  refine nv_iL dX6_isKind_0 rfl ?_
  refine nv_k dX6_isKind_1 ?_
  refine nv_k dX6_isKind_2 ?_
  refine nv_cSi (tc_isWithin G h x0 0 2) dX6_isKind_3 lm_X6_74 y_qX6_isWithin rfl (by decide) rfl (Nat.le_of_ble_eq_true rfl) ?_
  subst hf
  exact nv_ireturnB (b := (fc_isWithin x0 0 2)) dX6_isKind_6 rfl
/-! WhoseName.sheet -/
theorem dX6_sheet_0 : nv_diload qX6_sheet 0 1 1 := Or.inr ⟨1, rfl, by decide +kernel, rfl⟩
theorem dX6_sheet_1 : nv_dc qX6_sheet 1 (.invokestatic 180) 3 4 := ⟨by decide +kernel, rfl⟩
theorem dX6_sheet_4 : nv_dif qX6_sheet 4 .eq 20 7 := ⟨16, by decide +kernel, by decide, rfl⟩
theorem dX6_sheet_7 : nv_diload qX6_sheet 7 2 8 := Or.inr ⟨2, rfl, by decide +kernel, rfl⟩
theorem dX6_sheet_8 : nv_dc qX6_sheet 8 (.invokestatic 375) 3 11 := ⟨by decide +kernel, rfl⟩
theorem dX6_sheet_11 : nv_dif qX6_sheet 11 .eq 20 14 := ⟨9, by decide +kernel, by decide, rfl⟩
theorem dX6_sheet_14 : nv_diload qX6_sheet 14 3 15 := Or.inr ⟨3, rfl, by decide +kernel, rfl⟩
theorem dX6_sheet_15 : nv_dk qX6_sheet 15 60 17 := Or.inr (Or.inl ⟨60, ⟨by decide +kernel, rfl⟩, by decide⟩)
theorem dX6_sheet_17 : nv_dic qX6_sheet 17 .le 23 20 := ⟨6, by decide +kernel, by decide, rfl⟩
theorem dX6_sheet_20 : nv_dk qX6_sheet 20 (-2) 22 := Or.inr (Or.inl ⟨(-2), ⟨by decide +kernel, rfl⟩, by decide⟩)
theorem dX6_sheet_22 : decode qX6_sheet.2.1 22 = .ok (.ireturn, 1) := by decide +kernel
theorem dX6_sheet_23 : nv_diload qX6_sheet 23 3 24 := Or.inr ⟨3, rfl, by decide +kernel, rfl⟩
theorem dX6_sheet_24 : nv_dif qX6_sheet 24 .ge 33 27 := ⟨9, by decide +kernel, by decide, rfl⟩
theorem dX6_sheet_27 : nv_daload qX6_sheet 27 0 28 := Or.inr ⟨0, rfl, by decide +kernel, rfl⟩
theorem dX6_sheet_28 : nv_dk qX6_sheet 28 5 29 := Or.inl ⟨5, ⟨by decide +kernel, rfl⟩, by decide⟩
theorem dX6_sheet_29 : nv_dc qX6_sheet 29 (.invokevirtual 187) 3 32 := ⟨by decide +kernel, rfl⟩
theorem dX6_sheet_32 : decode qX6_sheet.2.1 32 = .ok (.ireturn, 1) := by decide +kernel
theorem dX6_sheet_33 : nv_daload qX6_sheet 33 0 34 := Or.inr ⟨0, rfl, by decide +kernel, rfl⟩
theorem dX6_sheet_34 : nv_dc qX6_sheet 34 (.getfield 45) 3 37 := ⟨by decide +kernel, rfl⟩
theorem dX6_sheet_37 : nv_diload qX6_sheet 37 1 38 := Or.inr ⟨1, rfl, by decide +kernel, rfl⟩
theorem dX6_sheet_38 : nv_dc qX6_sheet 38 (.aaload) 1 39 := ⟨by decide +kernel, rfl⟩
theorem dX6_sheet_39 : nv_diload qX6_sheet 39 2 40 := Or.inr ⟨2, rfl, by decide +kernel, rfl⟩
theorem dX6_sheet_40 : nv_diload qX6_sheet 40 3 41 := Or.inr ⟨3, rfl, by decide +kernel, rfl⟩
theorem dX6_sheet_41 : nv_dc qX6_sheet 41 (.invokevirtual 378) 3 44 := ⟨by decide +kernel, rfl⟩
theorem dX6_sheet_44 : nv_diload qX6_sheet 44 3 45 := Or.inr ⟨3, rfl, by decide +kernel, rfl⟩
theorem dX6_sheet_45 : decode qX6_sheet.2.1 45 = .ok (.ireturn, 1) := by decide +kernel
def fc_sheet (h : nv_Hp) (x1 : Int32) (x2 : Int32) (x3 : Int32) : Option (Int32 × nv_Hp) := (if (fc_isSheet x1) = true then (if (fc_isKind x2) = true then (if x3 ≤ 60 then (if 0 ≤ x3 then (if nv_inb x1 4 = true then (Option.bind (fs_renew h (65 + 2 * x1.toNatClampNeg) x2 x3) fun q6 => some (x3, q6)) else none) else (nv_lt (fc_find h 5) fun q7 => some (q7.1, q7.2))) else some ((-2), h)) else some ((-2), h)) else some ((-2), h))
set_option maxHeartbeats 2000000 in
theorem tc_sheet (G : nv_G) (h : nv_Hp) (x1 : Int32) (x2 : Int32) (x3 : Int32) {r : Int32 × nv_Hp} (hf : (fc_sheet h x1 x2 x3) = some r) : nv_Mt G 2 qX6_sheet [.ref 0, .int x1, .int x2, .int x3] (nv_s h) (some (.int r.1), nv_s r.2) := by
  refine nv_of (by decide +kernel) (fun ad => Nat.le_of_ble_eq_true rfl) (Nat.le_refl _) (Nat.le_of_ble_eq_true rfl) ?_
  show nv_E G 2 qX6_sheet 0 [some (.ref 0), some (.int x1), some (.int x2), some (.int x3)] [] (nv_s h) (some (.int r.1), nv_s r.2)
  unfold fc_sheet at hf
  refine nv_iL dX6_sheet_0 rfl ?_
  refine nv_cSi (tc_isSheet G h x1) dX6_sheet_1 lm_X6_180 y_qX6_isSheet rfl (by decide) rfl (Nat.le_of_ble_eq_true rfl) ?_
  refine nv_ifeqB dX6_sheet_4 (fun c1 => ?_) (fun c1 => ?_)
  · replace hf := nv_ip c1 hf
    refine nv_iL dX6_sheet_7 rfl ?_
    refine nv_cSi (tc_isKind G h x2) dX6_sheet_8 lm_X6_375 y_qX6_isKind rfl (by decide) rfl (Nat.le_of_ble_eq_true rfl) ?_
    refine nv_ifeqB dX6_sheet_11 (fun c2 => ?_) (fun c2 => ?_)
    · replace hf := nv_ip c2 hf
      refine nv_iL dX6_sheet_14 rfl ?_
      refine nv_k dX6_sheet_15 ?_
      refine nv_icle dX6_sheet_17 (fun c3 => ?_) (fun c3 => ?_)
      · replace hf := nv_ip c3 hf
        refine nv_iL dX6_sheet_23 rfl ?_
        refine nv_ifge dX6_sheet_24 (fun c4 => ?_) (fun c4 => ?_)
        · replace hf := nv_ip c4 hf
          refine nv_aL dX6_sheet_33 rfl ?_
          refine nv_tR lf_X6_45 dX6_sheet_34 ko_0 rfl ?_
          refine nv_iL dX6_sheet_37 rfl ?_
          obtain ⟨g5, hf⟩ := nv_gd hf
          refine nv_aR dX6_sheet_38 kr_7 ⟨_, rfl⟩ g5 rfl ?_
          refine nv_iL dX6_sheet_39 rfl ?_
          refine nv_iL dX6_sheet_40 rfl ?_
          obtain ⟨q6, hq6, hf⟩ := nv_bd hf
          refine nv_cVv (ts_renew G h (65 + 2 * x1.toNatClampNeg) (nv_o5 g5) x2 x3 hq6) dX6_sheet_41 lm_X6_378 y_qX5_renew (nv_o5 g5) rfl rfl (by decide) rfl (Nat.le_of_ble_eq_true rfl) ?_
          refine nv_iL dX6_sheet_44 rfl ?_
          obtain rfl := Option.some.inj hf
          exact nv_ireturnI dX6_sheet_45 rfl
        · replace hf := nv_in c4 hf
          refine nv_aL dX6_sheet_27 rfl ?_
          refine nv_k dX6_sheet_28 ?_
          refine nv_cVi (tc_find G h 5) dX6_sheet_29 lm_X6_187 y_qX6_find ko_0 rfl rfl (by decide) rfl (Nat.le_of_ble_eq_true rfl) ?_
          obtain ⟨q7, eq7, hf⟩ := nv_ltX hf
          rw [eq7]
          clear eq7
          obtain rfl := Option.some.inj hf
          exact nv_ireturnI dX6_sheet_32 rfl
      · replace hf := nv_in c3 hf
        refine nv_k dX6_sheet_20 ?_
        obtain rfl := Option.some.inj hf
        exact nv_ireturnI dX6_sheet_22 rfl
    · replace hf := nv_in c2 hf
      refine nv_k dX6_sheet_20 ?_
      obtain rfl := Option.some.inj hf
      exact nv_ireturnI dX6_sheet_22 rfl
  · replace hf := nv_in c1 hf
    refine nv_k dX6_sheet_20 ?_
    obtain rfl := Option.some.inj hf
    exact nv_ireturnI dX6_sheet_22 rfl
/-! WhoseName.lose -/
theorem dX6_lose_0 : nv_diload qX6_lose 0 1 1 := Or.inr ⟨1, rfl, by decide +kernel, rfl⟩
theorem dX6_lose_1 : nv_dc qX6_lose 1 (.invokestatic 180) 3 4 := ⟨by decide +kernel, rfl⟩
theorem dX6_lose_4 : nv_dif qX6_lose 4 .ne 10 7 := ⟨6, by decide +kernel, by decide, rfl⟩
theorem dX6_lose_7 : nv_dk qX6_lose 7 (-2) 9 := Or.inr (Or.inl ⟨(-2), ⟨by decide +kernel, rfl⟩, by decide⟩)
theorem dX6_lose_9 : decode qX6_lose.2.1 9 = .ok (.ireturn, 1) := by decide +kernel
theorem dX6_lose_10 : nv_daload qX6_lose 10 0 11 := Or.inr ⟨0, rfl, by decide +kernel, rfl⟩
theorem dX6_lose_11 : nv_dc qX6_lose 11 (.getfield 45) 3 14 := ⟨by decide +kernel, rfl⟩
theorem dX6_lose_14 : nv_diload qX6_lose 14 1 15 := Or.inr ⟨1, rfl, by decide +kernel, rfl⟩
theorem dX6_lose_15 : nv_dc qX6_lose 15 (.aaload) 1 16 := ⟨by decide +kernel, rfl⟩
theorem dX6_lose_16 : nv_dc qX6_lose 16 (.getfield 183) 3 19 := ⟨by decide +kernel, rfl⟩
theorem dX6_lose_19 : nv_dif qX6_lose 19 .eq 28 22 := ⟨9, by decide +kernel, by decide, rfl⟩
theorem dX6_lose_22 : nv_daload qX6_lose 22 0 23 := Or.inr ⟨0, rfl, by decide +kernel, rfl⟩
theorem dX6_lose_23 : nv_dk qX6_lose 23 1 24 := Or.inl ⟨1, ⟨by decide +kernel, rfl⟩, by decide⟩
theorem dX6_lose_24 : nv_dc qX6_lose 24 (.invokevirtual 187) 3 27 := ⟨by decide +kernel, rfl⟩
theorem dX6_lose_27 : decode qX6_lose.2.1 27 = .ok (.ireturn, 1) := by decide +kernel
theorem dX6_lose_28 : nv_daload qX6_lose 28 0 29 := Or.inr ⟨0, rfl, by decide +kernel, rfl⟩
theorem dX6_lose_29 : nv_dc qX6_lose 29 (.getfield 45) 3 32 := ⟨by decide +kernel, rfl⟩
theorem dX6_lose_32 : nv_diload qX6_lose 32 1 33 := Or.inr ⟨1, rfl, by decide +kernel, rfl⟩
theorem dX6_lose_33 : nv_dc qX6_lose 33 (.aaload) 1 34 := ⟨by decide +kernel, rfl⟩
theorem dX6_lose_34 : nv_dk qX6_lose 34 1 35 := Or.inl ⟨1, ⟨by decide +kernel, rfl⟩, by decide⟩
theorem dX6_lose_35 : nv_dc qX6_lose 35 (.putfield 183) 3 38 := ⟨by decide +kernel, rfl⟩
theorem dX6_lose_38 : nv_daload qX6_lose 38 0 39 := Or.inr ⟨0, rfl, by decide +kernel, rfl⟩
theorem dX6_lose_39 : nv_dc qX6_lose 39 (.getfield 45) 3 42 := ⟨by decide +kernel, rfl⟩
theorem dX6_lose_42 : nv_diload qX6_lose 42 1 43 := Or.inr ⟨1, rfl, by decide +kernel, rfl⟩
theorem dX6_lose_43 : nv_dc qX6_lose 43 (.aaload) 1 44 := ⟨by decide +kernel, rfl⟩
theorem dX6_lose_44 : nv_dc qX6_lose 44 (.getfield 191) 3 47 := ⟨by decide +kernel, rfl⟩
theorem dX6_lose_47 : decode qX6_lose.2.1 47 = .ok (.ireturn, 1) := by decide +kernel
def fc_lose (h : nv_Hp) (x1 : Int32) : Option (Int32 × nv_Hp) := (if (fc_isSheet x1) = true then (if nv_inb x1 4 = true then (if (h (65 + 2 * x1.toNatClampNeg) 1) = 0 then (nv_lt (nv_up h (65 + 2 * x1.toNatClampNeg) 1 1) fun h4 => some ((h4 (65 + 2 * x1.toNatClampNeg) 3), h4)) else (nv_lt (fc_find h 1) fun q5 => some (q5.1, q5.2))) else none) else some ((-2), h))
set_option maxHeartbeats 2000000 in
theorem tc_lose (G : nv_G) (h : nv_Hp) (x1 : Int32) {r : Int32 × nv_Hp} (hf : (fc_lose h x1) = some r) : nv_Mt G 2 qX6_lose [.ref 0, .int x1] (nv_s h) (some (.int r.1), nv_s r.2) := by
  refine nv_of (by decide +kernel) (fun ad => Nat.le_of_ble_eq_true rfl) (Nat.le_refl _) (Nat.le_of_ble_eq_true rfl) ?_
  show nv_E G 2 qX6_lose 0 [some (.ref 0), some (.int x1)] [] (nv_s h) (some (.int r.1), nv_s r.2)
  unfold fc_lose at hf
  refine nv_iL dX6_lose_0 rfl ?_
  refine nv_cSi (tc_isSheet G h x1) dX6_lose_1 lm_X6_180 y_qX6_isSheet rfl (by decide) rfl (Nat.le_of_ble_eq_true rfl) ?_
  refine nv_ifneB dX6_lose_4 (fun c1 => ?_) (fun c1 => ?_)
  · replace hf := nv_ip c1 hf
    refine nv_aL dX6_lose_10 rfl ?_
    refine nv_tR lf_X6_45 dX6_lose_11 ko_0 rfl ?_
    refine nv_iL dX6_lose_14 rfl ?_
    obtain ⟨g2, hf⟩ := nv_gd hf
    refine nv_aR dX6_lose_15 kr_7 ⟨_, rfl⟩ g2 rfl ?_
    refine nv_gI lf_X6_183 dX6_lose_16 (nv_o5 g2) rfl ?_
    refine nv_ifeq dX6_lose_19 (fun c3 => ?_) (fun c3 => ?_)
    · replace hf := nv_ip c3 hf
      refine nv_aL dX6_lose_28 rfl ?_
      refine nv_tR lf_X6_45 dX6_lose_29 ko_0 rfl ?_
      refine nv_iL dX6_lose_32 rfl ?_
      refine nv_aR dX6_lose_33 kr_7 ⟨_, rfl⟩ g2 rfl ?_
      refine nv_k dX6_lose_34 ?_
      refine nv_pB lp_X6_183 dX6_lose_35 (nv_o5 g2) rfl rfl rfl ?_
      obtain ⟨h4, eh4, hf⟩ := nv_ltX hf
      rw [eh4]
      clear eh4
      refine nv_aL dX6_lose_38 rfl ?_
      refine nv_tR lf_X6_45 dX6_lose_39 ko_0 rfl ?_
      refine nv_iL dX6_lose_42 rfl ?_
      refine nv_aR dX6_lose_43 kr_7 ⟨_, rfl⟩ g2 rfl ?_
      refine nv_gI lf_X6_191 dX6_lose_44 (nv_o5 g2) rfl ?_
      obtain rfl := Option.some.inj hf
      exact nv_ireturnI dX6_lose_47 rfl
    · replace hf := nv_in c3 hf
      refine nv_aL dX6_lose_22 rfl ?_
      refine nv_k dX6_lose_23 ?_
      refine nv_cVi (tc_find G h 1) dX6_lose_24 lm_X6_187 y_qX6_find ko_0 rfl rfl (by decide) rfl (Nat.le_of_ble_eq_true rfl) ?_
      obtain ⟨q5, eq5, hf⟩ := nv_ltX hf
      rw [eq5]
      clear eq5
      obtain rfl := Option.some.inj hf
      exact nv_ireturnI dX6_lose_27 rfl
  · replace hf := nv_in c1 hf
    refine nv_k dX6_lose_7 ?_
    obtain rfl := Option.some.inj hf
    exact nv_ireturnI dX6_lose_9 rfl
/-! WhoseName.findingAt -/
theorem dX6_findingAt_0 : nv_daload qX6_findingAt 0 0 1 := Or.inr ⟨0, rfl, by decide +kernel, rfl⟩
theorem dX6_findingAt_1 : nv_dc qX6_findingAt 1 (.getfield 183) 3 4 := ⟨by decide +kernel, rfl⟩
theorem dX6_findingAt_4 : nv_dif qX6_findingAt 4 .eq 9 7 := ⟨5, by decide +kernel, by decide, rfl⟩
theorem dX6_findingAt_7 : nv_dk qX6_findingAt 7 1 8 := Or.inl ⟨1, ⟨by decide +kernel, rfl⟩, by decide⟩
theorem dX6_findingAt_8 : decode qX6_findingAt.2.1 8 = .ok (.ireturn, 1) := by decide +kernel
theorem dX6_findingAt_9 : nv_daload qX6_findingAt 9 0 10 := Or.inr ⟨0, rfl, by decide +kernel, rfl⟩
theorem dX6_findingAt_10 : nv_dc qX6_findingAt 10 (.getfield 390) 3 13 := ⟨by decide +kernel, rfl⟩
theorem dX6_findingAt_13 : nv_diload qX6_findingAt 13 1 14 := Or.inr ⟨1, rfl, by decide +kernel, rfl⟩
theorem dX6_findingAt_14 : nv_dic qX6_findingAt 14 .eq 19 17 := ⟨5, by decide +kernel, by decide, rfl⟩
theorem dX6_findingAt_17 : nv_dk qX6_findingAt 17 3 18 := Or.inl ⟨3, ⟨by decide +kernel, rfl⟩, by decide⟩
theorem dX6_findingAt_18 : decode qX6_findingAt.2.1 18 = .ok (.ireturn, 1) := by decide +kernel
theorem dX6_findingAt_19 : nv_daload qX6_findingAt 19 0 20 := Or.inr ⟨0, rfl, by decide +kernel, rfl⟩
theorem dX6_findingAt_20 : nv_diload qX6_findingAt 20 2 21 := Or.inr ⟨2, rfl, by decide +kernel, rfl⟩
theorem dX6_findingAt_21 : nv_dc qX6_findingAt 21 (.invokevirtual 419) 3 24 := ⟨by decide +kernel, rfl⟩
theorem dX6_findingAt_24 : nv_dif qX6_findingAt 24 .eq 31 27 := ⟨7, by decide +kernel, by decide, rfl⟩
theorem dX6_findingAt_27 : nv_dk qX6_findingAt 27 0 28 := Or.inl ⟨0, ⟨by decide +kernel, rfl⟩, by decide⟩
theorem dX6_findingAt_28 : nv_dgo qX6_findingAt 28 32 := ⟨4, by decide +kernel, by decide⟩
theorem dX6_findingAt_31 : nv_dk qX6_findingAt 31 2 32 := Or.inl ⟨2, ⟨by decide +kernel, rfl⟩, by decide⟩
theorem dX6_findingAt_32 : decode qX6_findingAt.2.1 32 = .ok (.ireturn, 1) := by decide +kernel
def fc_findingAt (h : nv_Hp) (k0 : Nat) (x1 : Int32) (x2 : Int32) : Int32 := (if (h k0 1) = 0 then (if (h k0 2) = x1 then (if (fs_has h k0 x2) = true then 0 else 2) else 3) else 1)
set_option maxHeartbeats 2000000 in
theorem tc_findingAt (G : nv_G) (h : nv_Hp) (k0 : Nat) (hk0 : nv_O 5 k0) (x1 : Int32) (x2 : Int32) : nv_Mt G 1 qX6_findingAt [.ref k0, .int x1, .int x2] (nv_s h) (some (.int (fc_findingAt h k0 x1 x2)), nv_s h) := by
  refine nv_of (by decide +kernel) (fun ad => Nat.le_of_ble_eq_true rfl) (Nat.le_refl _) (Nat.le_of_ble_eq_true rfl) ?_
  show nv_E G 1 qX6_findingAt 0 [some (.ref k0), some (.int x1), some (.int x2)] [] (nv_s h) (some (.int (fc_findingAt h k0 x1 x2)), nv_s h)
  generalize hf : (fc_findingAt h k0 x1 x2) = r
  unfold fc_findingAt at hf
  refine nv_aL dX6_findingAt_0 rfl ?_
  refine nv_gI lf_X6_183 dX6_findingAt_1 hk0 rfl ?_
  refine nv_ifeq dX6_findingAt_4 (fun c1 => ?_) (fun c1 => ?_)
  · replace hf := nv_ip c1 hf
    refine nv_aL dX6_findingAt_9 rfl ?_
    refine nv_gI lf_X6_390 dX6_findingAt_10 hk0 rfl ?_
    refine nv_iL dX6_findingAt_13 rfl ?_
    refine nv_iceq dX6_findingAt_14 (fun c2 => ?_) (fun c2 => ?_)
    · replace hf := nv_ip c2 hf
      refine nv_aL dX6_findingAt_19 rfl ?_
      refine nv_iL dX6_findingAt_20 rfl ?_
      refine nv_cVi (ts_has G h k0 hk0 x2) dX6_findingAt_21 lm_X6_419 y_qX5_has hk0 rfl rfl (by decide) rfl (Nat.le_of_ble_eq_true rfl) ?_
      refine nv_ifeqB dX6_findingAt_24 (fun c3 => ?_) (fun c3 => ?_)
      · replace hf := nv_ip c3 hf
        refine nv_k dX6_findingAt_27 ?_
        refine nv_goto dX6_findingAt_28 ?_
        subst hf
        exact nv_ireturnI dX6_findingAt_32 rfl
      · replace hf := nv_in c3 hf
        refine nv_k dX6_findingAt_31 ?_
        subst hf
        exact nv_ireturnI dX6_findingAt_32 rfl
    · replace hf := nv_in c2 hf
      refine nv_k dX6_findingAt_17 ?_
      subst hf
      exact nv_ireturnI dX6_findingAt_18 rfl
  · replace hf := nv_in c1 hf
    refine nv_k dX6_findingAt_7 ?_
    subst hf
    exact nv_ireturnI dX6_findingAt_8 rfl
/-! WhoseName.lay -/
theorem dX6_lay_0 : nv_diload qX6_lay 0 1 1 := Or.inr ⟨1, rfl, by decide +kernel, rfl⟩
theorem dX6_lay_1 : nv_dc qX6_lay 1 (.invokestatic 180) 3 4 := ⟨by decide +kernel, rfl⟩
theorem dX6_lay_4 : nv_dif qX6_lay 4 .eq 14 7 := ⟨10, by decide +kernel, by decide, rfl⟩
theorem dX6_lay_7 : nv_diload qX6_lay 7 2 8 := Or.inr ⟨2, rfl, by decide +kernel, rfl⟩
theorem dX6_lay_8 : nv_dc qX6_lay 8 (.invokestatic 375) 3 11 := ⟨by decide +kernel, rfl⟩
theorem dX6_lay_11 : nv_dif qX6_lay 11 .ne 17 14 := ⟨6, by decide +kernel, by decide, rfl⟩
theorem dX6_lay_14 : nv_dk qX6_lay 14 (-2) 16 := Or.inr (Or.inl ⟨(-2), ⟨by decide +kernel, rfl⟩, by decide⟩)
theorem dX6_lay_16 : decode qX6_lay.2.1 16 = .ok (.ireturn, 1) := by decide +kernel
theorem dX6_lay_17 : nv_daload qX6_lay 17 0 18 := Or.inr ⟨0, rfl, by decide +kernel, rfl⟩
theorem dX6_lay_18 : nv_dc qX6_lay 18 (.getfield 45) 3 21 := ⟨by decide +kernel, rfl⟩
theorem dX6_lay_21 : nv_diload qX6_lay 21 1 22 := Or.inr ⟨1, rfl, by decide +kernel, rfl⟩
theorem dX6_lay_22 : nv_dc qX6_lay 22 (.aaload) 1 23 := ⟨by decide +kernel, rfl⟩
theorem dX6_lay_23 : nv_diload qX6_lay 23 2 24 := Or.inr ⟨2, rfl, by decide +kernel, rfl⟩
theorem dX6_lay_24 : nv_diload qX6_lay 24 3 25 := Or.inr ⟨3, rfl, by decide +kernel, rfl⟩
theorem dX6_lay_25 : nv_dc qX6_lay 25 (.invokestatic 382) 3 28 := ⟨by decide +kernel, rfl⟩
theorem dX6_lay_28 : nv_distore qX6_lay 28 5 30 := Or.inl ⟨by decide +kernel, rfl⟩
theorem dX6_lay_30 : nv_diload qX6_lay 30 5 32 := Or.inl ⟨by decide +kernel, rfl⟩
theorem dX6_lay_32 : nv_dif qX6_lay 32 .eq 42 35 := ⟨10, by decide +kernel, by decide, rfl⟩
theorem dX6_lay_35 : nv_daload qX6_lay 35 0 36 := Or.inr ⟨0, rfl, by decide +kernel, rfl⟩
theorem dX6_lay_36 : nv_diload qX6_lay 36 5 38 := Or.inl ⟨by decide +kernel, rfl⟩
theorem dX6_lay_38 : nv_dc qX6_lay 38 (.invokevirtual 187) 3 41 := ⟨by decide +kernel, rfl⟩
theorem dX6_lay_41 : decode qX6_lay.2.1 41 = .ok (.ireturn, 1) := by decide +kernel
theorem dX6_lay_42 : nv_daload qX6_lay 42 0 43 := Or.inr ⟨0, rfl, by decide +kernel, rfl⟩
theorem dX6_lay_43 : nv_dc qX6_lay 43 (.getfield 45) 3 46 := ⟨by decide +kernel, rfl⟩
theorem dX6_lay_46 : nv_diload qX6_lay 46 1 47 := Or.inr ⟨1, rfl, by decide +kernel, rfl⟩
theorem dX6_lay_47 : nv_dc qX6_lay 47 (.aaload) 1 48 := ⟨by decide +kernel, rfl⟩
theorem dX6_lay_48 : nv_diload qX6_lay 48 3 49 := Or.inr ⟨3, rfl, by decide +kernel, rfl⟩
theorem dX6_lay_49 : nv_diload qX6_lay 49 4 51 := Or.inl ⟨by decide +kernel, rfl⟩
theorem dX6_lay_51 : nv_dc qX6_lay 51 (.invokevirtual 386) 3 54 := ⟨by decide +kernel, rfl⟩
theorem dX6_lay_54 : nv_dk qX6_lay 54 1 55 := Or.inl ⟨1, ⟨by decide +kernel, rfl⟩, by decide⟩
theorem dX6_lay_55 : decode qX6_lay.2.1 55 = .ok (.ireturn, 1) := by decide +kernel
def fc_lay (h : nv_Hp) (x1 : Int32) (x2 : Int32) (x3 : Int32) (x4 : Int32) : Option (Int32 × nv_Hp) := (if (fc_isSheet x1) = true then (if (fc_isKind x2) = true then (if nv_inb x1 4 = true then (nv_lt ((fc_findingAt h (65 + 2 * x1.toNatClampNeg) x2 x3)) fun v4 => (if v4 = 0 then (Option.bind (fs_put h (65 + 2 * x1.toNatClampNeg) x3 x4) fun q6 => some (1, q6)) else (nv_lt (fc_find h v4) fun q7 => some (q7.1, q7.2)))) else none) else some ((-2), h)) else some ((-2), h))
set_option maxHeartbeats 2000000 in
theorem tc_lay (G : nv_G) (h : nv_Hp) (x1 : Int32) (x2 : Int32) (x3 : Int32) (x4 : Int32) {r : Int32 × nv_Hp} (hf : (fc_lay h x1 x2 x3 x4) = some r) : nv_Mt G 2 qX6_lay [.ref 0, .int x1, .int x2, .int x3, .int x4] (nv_s h) (some (.int r.1), nv_s r.2) := by
  refine nv_of (by decide +kernel) (fun ad => Nat.le_of_ble_eq_true rfl) (Nat.le_refl _) (Nat.le_of_ble_eq_true rfl) ?_
  show nv_E G 2 qX6_lay 0 [some (.ref 0), some (.int x1), some (.int x2), some (.int x3), some (.int x4), none] [] (nv_s h) (some (.int r.1), nv_s r.2)
  unfold fc_lay at hf
  refine nv_iL dX6_lay_0 rfl ?_
  refine nv_cSi (tc_isSheet G h x1) dX6_lay_1 lm_X6_180 y_qX6_isSheet rfl (by decide) rfl (Nat.le_of_ble_eq_true rfl) ?_
  refine nv_ifeqB dX6_lay_4 (fun c1 => ?_) (fun c1 => ?_)
  · replace hf := nv_ip c1 hf
    refine nv_iL dX6_lay_7 rfl ?_
    refine nv_cSi (tc_isKind G h x2) dX6_lay_8 lm_X6_375 y_qX6_isKind rfl (by decide) rfl (Nat.le_of_ble_eq_true rfl) ?_
    refine nv_ifneB dX6_lay_11 (fun c2 => ?_) (fun c2 => ?_)
    · replace hf := nv_ip c2 hf
      refine nv_aL dX6_lay_17 rfl ?_
      refine nv_tR lf_X6_45 dX6_lay_18 ko_0 rfl ?_
      refine nv_iL dX6_lay_21 rfl ?_
      obtain ⟨g3, hf⟩ := nv_gd hf
      refine nv_aR dX6_lay_22 kr_7 ⟨_, rfl⟩ g3 rfl ?_
      refine nv_iL dX6_lay_23 rfl ?_
      refine nv_iL dX6_lay_24 rfl ?_
      refine nv_cSi (tc_findingAt G h (65 + 2 * x1.toNatClampNeg) (nv_o5 g3) x2 x3) dX6_lay_25 lm_X6_382 y_qX6_findingAt rfl (by decide) rfl (Nat.le_of_ble_eq_true rfl) ?_
      obtain ⟨v4, ev4, hf⟩ := nv_ltX hf
      rw [ev4]
      clear ev4
      refine nv_iS dX6_lay_28 (by decide) rfl rfl ?_
      refine nv_iL dX6_lay_30 rfl ?_
      refine nv_ifeq dX6_lay_32 (fun c5 => ?_) (fun c5 => ?_)
      · replace hf := nv_ip c5 hf
        refine nv_aL dX6_lay_42 rfl ?_
        refine nv_tR lf_X6_45 dX6_lay_43 ko_0 rfl ?_
        refine nv_iL dX6_lay_46 rfl ?_
        refine nv_aR dX6_lay_47 kr_7 ⟨_, rfl⟩ g3 rfl ?_
        refine nv_iL dX6_lay_48 rfl ?_
        refine nv_iL dX6_lay_49 rfl ?_
        obtain ⟨q6, hq6, hf⟩ := nv_bd hf
        refine nv_cVv (ts_put G h (65 + 2 * x1.toNatClampNeg) (nv_o5 g3) x3 x4 hq6) dX6_lay_51 lm_X6_386 y_qX5_put (nv_o5 g3) rfl rfl (by decide) rfl (Nat.le_of_ble_eq_true rfl) ?_
        refine nv_k dX6_lay_54 ?_
        obtain rfl := Option.some.inj hf
        exact nv_ireturnI dX6_lay_55 rfl
      · replace hf := nv_in c5 hf
        refine nv_aL dX6_lay_35 rfl ?_
        refine nv_iL dX6_lay_36 rfl ?_
        refine nv_cVi (tc_find G h v4) dX6_lay_38 lm_X6_187 y_qX6_find ko_0 rfl rfl (by decide) rfl (Nat.le_of_ble_eq_true rfl) ?_
        obtain ⟨q7, eq7, hf⟩ := nv_ltX hf
        rw [eq7]
        clear eq7
        obtain rfl := Option.some.inj hf
        exact nv_ireturnI dX6_lay_41 rfl
    · replace hf := nv_in c2 hf
      refine nv_k dX6_lay_14 ?_
      obtain rfl := Option.some.inj hf
      exact nv_ireturnI dX6_lay_16 rfl
  · replace hf := nv_in c1 hf
    refine nv_k dX6_lay_14 ?_
    obtain rfl := Option.some.inj hf
    exact nv_ireturnI dX6_lay_16 rfl
/-! WhoseName.get -/
theorem dX6_get_0 : nv_diload qX6_get 0 1 1 := Or.inr ⟨1, rfl, by decide +kernel, rfl⟩
theorem dX6_get_1 : nv_dc qX6_get 1 (.invokestatic 180) 3 4 := ⟨by decide +kernel, rfl⟩
theorem dX6_get_4 : nv_dif qX6_get 4 .eq 14 7 := ⟨10, by decide +kernel, by decide, rfl⟩
theorem dX6_get_7 : nv_diload qX6_get 7 2 8 := Or.inr ⟨2, rfl, by decide +kernel, rfl⟩
theorem dX6_get_8 : nv_dc qX6_get 8 (.invokestatic 375) 3 11 := ⟨by decide +kernel, rfl⟩
theorem dX6_get_11 : nv_dif qX6_get 11 .ne 18 14 := ⟨7, by decide +kernel, by decide, rfl⟩
theorem dX6_get_14 : nv_dc qX6_get 14 (.ldc_w 389) 3 17 := ⟨by decide +kernel, rfl⟩
theorem dX6_get_17 : decode qX6_get.2.1 17 = .ok (.ireturn, 1) := by decide +kernel
theorem dX6_get_18 : nv_daload qX6_get 18 0 19 := Or.inr ⟨0, rfl, by decide +kernel, rfl⟩
theorem dX6_get_19 : nv_dc qX6_get 19 (.getfield 45) 3 22 := ⟨by decide +kernel, rfl⟩
theorem dX6_get_22 : nv_diload qX6_get 22 1 23 := Or.inr ⟨1, rfl, by decide +kernel, rfl⟩
theorem dX6_get_23 : nv_dc qX6_get 23 (.aaload) 1 24 := ⟨by decide +kernel, rfl⟩
theorem dX6_get_24 : nv_diload qX6_get 24 2 25 := Or.inr ⟨2, rfl, by decide +kernel, rfl⟩
theorem dX6_get_25 : nv_diload qX6_get 25 3 26 := Or.inr ⟨3, rfl, by decide +kernel, rfl⟩
theorem dX6_get_26 : nv_dc qX6_get 26 (.invokestatic 382) 3 29 := ⟨by decide +kernel, rfl⟩
theorem dX6_get_29 : nv_distore qX6_get 29 4 31 := Or.inl ⟨by decide +kernel, rfl⟩
theorem dX6_get_31 : nv_diload qX6_get 31 4 33 := Or.inl ⟨by decide +kernel, rfl⟩
theorem dX6_get_33 : nv_dif qX6_get 33 .eq 47 36 := ⟨14, by decide +kernel, by decide, rfl⟩
theorem dX6_get_36 : nv_daload qX6_get 36 0 37 := Or.inr ⟨0, rfl, by decide +kernel, rfl⟩
theorem dX6_get_37 : nv_diload qX6_get 37 4 39 := Or.inl ⟨by decide +kernel, rfl⟩
theorem dX6_get_39 : nv_dc qX6_get 39 (.invokevirtual 187) 3 42 := ⟨by decide +kernel, rfl⟩
theorem dX6_get_42 : nv_dc qX6_get 42 (.pop) 1 43 := ⟨by decide +kernel, rfl⟩
theorem dX6_get_43 : nv_dc qX6_get 43 (.ldc_w 389) 3 46 := ⟨by decide +kernel, rfl⟩
theorem dX6_get_46 : decode qX6_get.2.1 46 = .ok (.ireturn, 1) := by decide +kernel
theorem dX6_get_47 : nv_daload qX6_get 47 0 48 := Or.inr ⟨0, rfl, by decide +kernel, rfl⟩
theorem dX6_get_48 : nv_dc qX6_get 48 (.getfield 45) 3 51 := ⟨by decide +kernel, rfl⟩
theorem dX6_get_51 : nv_diload qX6_get 51 1 52 := Or.inr ⟨1, rfl, by decide +kernel, rfl⟩
theorem dX6_get_52 : nv_dc qX6_get 52 (.aaload) 1 53 := ⟨by decide +kernel, rfl⟩
theorem dX6_get_53 : nv_diload qX6_get 53 3 54 := Or.inr ⟨3, rfl, by decide +kernel, rfl⟩
theorem dX6_get_54 : nv_dc qX6_get 54 (.invokevirtual 194) 3 57 := ⟨by decide +kernel, rfl⟩
theorem dX6_get_57 : decode qX6_get.2.1 57 = .ok (.ireturn, 1) := by decide +kernel
def fc_get (h : nv_Hp) (x1 : Int32) (x2 : Int32) (x3 : Int32) : Option (Int32 × nv_Hp) := (if (fc_isSheet x1) = true then (if (fc_isKind x2) = true then (if nv_inb x1 4 = true then (nv_lt ((fc_findingAt h (65 + 2 * x1.toNatClampNeg) x2 x3)) fun v4 => (if v4 = 0 then (Option.bind (fs_itemAt h (65 + 2 * x1.toNatClampNeg) x3) fun q6 => some (q6, h)) else (nv_lt (fc_find h v4) fun q7 => some ((-2147483648), q7.2)))) else none) else some ((-2147483648), h)) else some ((-2147483648), h))
set_option maxHeartbeats 2000000 in
theorem tc_get (G : nv_G) (h : nv_Hp) (x1 : Int32) (x2 : Int32) (x3 : Int32) {r : Int32 × nv_Hp} (hf : (fc_get h x1 x2 x3) = some r) : nv_Mt G 2 qX6_get [.ref 0, .int x1, .int x2, .int x3] (nv_s h) (some (.int r.1), nv_s r.2) := by
  refine nv_of (by decide +kernel) (fun ad => Nat.le_of_ble_eq_true rfl) (Nat.le_refl _) (Nat.le_of_ble_eq_true rfl) ?_
  show nv_E G 2 qX6_get 0 [some (.ref 0), some (.int x1), some (.int x2), some (.int x3), none] [] (nv_s h) (some (.int r.1), nv_s r.2)
  unfold fc_get at hf
  refine nv_iL dX6_get_0 rfl ?_
  refine nv_cSi (tc_isSheet G h x1) dX6_get_1 lm_X6_180 y_qX6_isSheet rfl (by decide) rfl (Nat.le_of_ble_eq_true rfl) ?_
  refine nv_ifeqB dX6_get_4 (fun c1 => ?_) (fun c1 => ?_)
  · replace hf := nv_ip c1 hf
    refine nv_iL dX6_get_7 rfl ?_
    refine nv_cSi (tc_isKind G h x2) dX6_get_8 lm_X6_375 y_qX6_isKind rfl (by decide) rfl (Nat.le_of_ble_eq_true rfl) ?_
    refine nv_ifneB dX6_get_11 (fun c2 => ?_) (fun c2 => ?_)
    · replace hf := nv_ip c2 hf
      refine nv_aL dX6_get_18 rfl ?_
      refine nv_tR lf_X6_45 dX6_get_19 ko_0 rfl ?_
      refine nv_iL dX6_get_22 rfl ?_
      obtain ⟨g3, hf⟩ := nv_gd hf
      refine nv_aR dX6_get_23 kr_7 ⟨_, rfl⟩ g3 rfl ?_
      refine nv_iL dX6_get_24 rfl ?_
      refine nv_iL dX6_get_25 rfl ?_
      refine nv_cSi (tc_findingAt G h (65 + 2 * x1.toNatClampNeg) (nv_o5 g3) x2 x3) dX6_get_26 lm_X6_382 y_qX6_findingAt rfl (by decide) rfl (Nat.le_of_ble_eq_true rfl) ?_
      obtain ⟨v4, ev4, hf⟩ := nv_ltX hf
      rw [ev4]
      clear ev4
      refine nv_iS dX6_get_29 (by decide) rfl rfl ?_
      refine nv_iL dX6_get_31 rfl ?_
      refine nv_ifeq dX6_get_33 (fun c5 => ?_) (fun c5 => ?_)
      · replace hf := nv_ip c5 hf
        refine nv_aL dX6_get_47 rfl ?_
        refine nv_tR lf_X6_45 dX6_get_48 ko_0 rfl ?_
        refine nv_iL dX6_get_51 rfl ?_
        refine nv_aR dX6_get_52 kr_7 ⟨_, rfl⟩ g3 rfl ?_
        refine nv_iL dX6_get_53 rfl ?_
        obtain ⟨q6, hq6, hf⟩ := nv_bd hf
        refine nv_cVi (ts_itemAt G h (65 + 2 * x1.toNatClampNeg) (nv_o5 g3) x3 hq6) dX6_get_54 lm_X6_194 y_qX5_itemAt (nv_o5 g3) rfl rfl (by decide) rfl (Nat.le_of_ble_eq_true rfl) ?_
        obtain rfl := Option.some.inj hf
        exact nv_ireturnI dX6_get_57 rfl
      · replace hf := nv_in c5 hf
        refine nv_aL dX6_get_36 rfl ?_
        refine nv_iL dX6_get_37 rfl ?_
        refine nv_cVi (tc_find G h v4) dX6_get_39 lm_X6_187 y_qX6_find ko_0 rfl rfl (by decide) rfl (Nat.le_of_ble_eq_true rfl) ?_
        obtain ⟨q7, eq7, hf⟩ := nv_ltX hf
        rw [eq7]
        clear eq7
        refine nv_pop dX6_get_42 rfl ?_
        refine nv_ldcw dX6_get_43 lc_X6_389 ?_
        obtain rfl := Option.some.inj hf
        exact nv_ireturnI dX6_get_46 rfl
    · replace hf := nv_in c2 hf
      refine nv_ldcw dX6_get_14 lc_X6_389 ?_
      obtain rfl := Option.some.inj hf
      exact nv_ireturnI dX6_get_17 rfl
  · replace hf := nv_in c1 hf
    refine nv_ldcw dX6_get_14 lc_X6_389 ?_
    obtain rfl := Option.some.inj hf
    exact nv_ireturnI dX6_get_17 rfl
