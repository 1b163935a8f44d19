/-! WhoseName$Bargain.isForAnother -/
theorem dX2_isForAnother_0 : nv_daload qX2_isForAnother 0 0 1 := Or.inr ⟨0, rfl, by decide +kernel, rfl⟩
theorem dX2_isForAnother_1 : nv_dc qX2_isForAnother 1 (.getfield 9) 3 4 := ⟨by decide +kernel, rfl⟩
theorem dX2_isForAnother_4 : nv_dk qX2_isForAnother 4 (-1) 5 := Or.inl ⟨(-1), ⟨by decide +kernel, rfl⟩, by decide⟩
theorem dX2_isForAnother_5 : nv_dic qX2_isForAnother 5 .eq 23 8 := ⟨18, by decide +kernel, by decide, rfl⟩
theorem dX2_isForAnother_8 : nv_daload qX2_isForAnother 8 0 9 := Or.inr ⟨0, rfl, by decide +kernel, rfl⟩
theorem dX2_isForAnother_9 : nv_dc qX2_isForAnother 9 (.getfield 9) 3 12 := ⟨by decide +kernel, rfl⟩
theorem dX2_isForAnother_12 : nv_daload qX2_isForAnother 12 0 13 := Or.inr ⟨0, rfl, by decide +kernel, rfl⟩
theorem dX2_isForAnother_13 : nv_dc qX2_isForAnother 13 (.getfield 15) 3 16 := ⟨by decide +kernel, rfl⟩
theorem dX2_isForAnother_16 : nv_dic qX2_isForAnother 16 .eq 23 19 := ⟨7, by decide +kernel, by decide, rfl⟩
theorem dX2_isForAnother_19 : nv_dk qX2_isForAnother 19 1 20 := Or.inl ⟨1, ⟨by decide +kernel, rfl⟩, by decide⟩
theorem dX2_isForAnother_20 : nv_dgo qX2_isForAnother 20 24 := ⟨4, by decide +kernel, by decide⟩
theorem dX2_isForAnother_23 : nv_dk qX2_isForAnother 23 0 24 := Or.inl ⟨0, ⟨by decide +kernel, rfl⟩, by decide⟩
theorem dX2_isForAnother_24 : decode qX2_isForAnother.2.1 24 = .ok (.ireturn, 1) := by decide +kernel
def fb_isForAnother (h : nv_Hp) (k0 : Nat) : Bool := (if (h k0 2) = (-1) then false else (if (h k0 2) = (h k0 1) then false else true))
set_option maxHeartbeats 2000000 in
theorem tb_isForAnother (G : nv_G) (h : nv_Hp) (k0 : Nat) (hk0 : nv_O 2 k0) : nv_Mt G 0 qX2_isForAnother [.ref k0] (nv_s h) (some (.int (nv_bi (fb_isForAnother h k0))), nv_s h) := by
  refine nv_of (by decide +kernel) (fun ad => Nat.le_of_ble_eq_true rfl) (Nat.le_refl _) (Nat.le_of_ble_eq_true rfl) ?_
  show nv_E G 0 qX2_isForAnother 0 [some (.ref k0)] [] (nv_s h) (some (.int (nv_bi (fb_isForAnother h k0))), nv_s h)
  generalize hf : (fb_isForAnother h k0) = r
  unfold fb_isForAnother at hf
  refine nv_aL dX2_isForAnother_0 rfl ?_
  refine nv_gI lf_X2_9 dX2_isForAnother_1 hk0 rfl ?_
  refine nv_k dX2_isForAnother_4 ?_
  refine nv_iceq dX2_isForAnother_5 (fun c1 => ?_) (fun c1 => ?_)
  · replace hf := nv_ip c1 hf
    refine nv_k dX2_isForAnother_23 ?_
    subst hf
    exact nv_ireturnB (b := false) dX2_isForAnother_24 rfl
  · replace hf := nv_in c1 hf
    refine nv_aL dX2_isForAnother_8 rfl ?_
    refine nv_gI lf_X2_9 dX2_isForAnother_9 hk0 rfl ?_
    refine nv_aL dX2_isForAnother_12 rfl ?_
    refine nv_gI lf_X2_15 dX2_isForAnother_13 hk0 rfl ?_
    refine nv_iceq dX2_isForAnother_16 (fun c2 => ?_) (fun c2 => ?_)
    · replace hf := nv_ip c2 hf
      refine nv_k dX2_isForAnother_23 ?_
      subst hf
      exact nv_ireturnB (b := false) dX2_isForAnother_24 rfl
    · replace hf := nv_in c2 hf
      refine nv_k dX2_isForAnother_19 ?_
      refine nv_goto dX2_isForAnother_20 ?_
      subst hf
      exact nv_ireturnB (b := true) dX2_isForAnother_24 rfl
/-! WhoseName$Law.forgetParts -/
theorem dX3_forgetParts_0 : nv_dc qX3_forgetParts 0 (.getstatic 35) 3 3 := ⟨by decide +kernel, rfl⟩
theorem dX3_forgetParts_3 : nv_dk qX3_forgetParts 3 0 4 := Or.inl ⟨0, ⟨by decide +kernel, rfl⟩, by decide⟩
theorem dX3_forgetParts_4 : nv_daload qX3_forgetParts 4 0 5 := Or.inr ⟨0, rfl, by decide +kernel, rfl⟩
theorem dX3_forgetParts_5 : nv_dc qX3_forgetParts 5 (.getfield 15) 3 8 := ⟨by decide +kernel, rfl⟩
theorem dX3_forgetParts_8 : nv_dk qX3_forgetParts 8 0 9 := Or.inl ⟨0, ⟨by decide +kernel, rfl⟩, by decide⟩
theorem dX3_forgetParts_9 : nv_dk qX3_forgetParts 9 9 11 := Or.inr (Or.inl ⟨9, ⟨by decide +kernel, rfl⟩, by decide⟩)
theorem dX3_forgetParts_11 : nv_dc qX3_forgetParts 11 (.invokestatic 38) 3 14 := ⟨by decide +kernel, rfl⟩
theorem dX3_forgetParts_14 : decode qX3_forgetParts.2.1 14 = .ok (.return_, 1) := by decide +kernel
def fw_forgetParts (h : nv_Hp) (k0 : Nat) : nv_Hp := (nv_lt (nv_cp (fun j => List.getD [1, 1, 10, 0, 10, 1, 0, 1, 1] j 0) h (k0 + 2) (Int32.toNatClampNeg 0) (Int32.toNatClampNeg 0) (Int32.toNatClampNeg 9)) fun h1 => h1)
set_option maxHeartbeats 2000000 in
theorem tw_forgetParts (G : nv_G) (h : nv_Hp) (k0 : Nat) (hk0 : nv_O 3 k0) : nv_Mt G 1 qX3_forgetParts [.ref k0] (nv_s h) (none, nv_s (fw_forgetParts h k0)) := by
  refine nv_of (by decide +kernel) (fun ad => Nat.le_of_ble_eq_true rfl) (Nat.le_refl _) (Nat.le_of_ble_eq_true rfl) ?_
  show nv_E G 1 qX3_forgetParts 0 [some (.ref k0)] [] (nv_s h) (none, nv_s (fw_forgetParts h k0))
  generalize hf : (fw_forgetParts h k0) = r
  unfold fw_forgetParts at hf
  refine nv_getsN (i := 2) dX3_forgetParts_0 rfl ls_X3_35 ?_
  refine nv_k dX3_forgetParts_3 ?_
  refine nv_aL dX3_forgetParts_4 rfl ?_
  refine nv_gR (t := (k0 + 2)) lf_X3_15 dX3_forgetParts_5 hk0 rfl ?_
  refine nv_k dX3_forgetParts_8 ?_
  refine nv_k dX3_forgetParts_9 ?_
  refine nv_copyS (i := 2) dX3_forgetParts_11 lcp_X3 (by decide) rfl (nv_o3w hk0) (by decide) (by decide) (by decide) (by decide) (by decide) (Nat.le_of_ble_eq_true rfl) ?_
  obtain ⟨h1, eh1, hf⟩ := nv_ltX hf
  rw [eh1]
  clear eh1
  subst hf
  exact nv_return dX3_forgetParts_14 rfl
/-! WhoseName$Law.signAt -/
theorem dX3_signAt_0 : nv_diload qX3_signAt 0 1 1 := Or.inr ⟨1, rfl, by decide +kernel, rfl⟩
theorem dX3_signAt_1 : nv_dif qX3_signAt 1 .lt 27 4 := ⟨26, by decide +kernel, by decide, rfl⟩
theorem dX3_signAt_4 : nv_diload qX3_signAt 4 1 5 := Or.inr ⟨1, rfl, by decide +kernel, rfl⟩
theorem dX3_signAt_5 : nv_daload qX3_signAt 5 0 6 := Or.inr ⟨0, rfl, by decide +kernel, rfl⟩
theorem dX3_signAt_6 : nv_dc qX3_signAt 6 (.getfield 21) 3 9 := ⟨by decide +kernel, rfl⟩
theorem dX3_signAt_9 : nv_dic qX3_signAt 9 .ge 27 12 := ⟨18, by decide +kernel, by decide, rfl⟩
theorem dX3_signAt_12 : nv_diload qX3_signAt 12 1 13 := Or.inr ⟨1, rfl, by decide +kernel, rfl⟩
theorem dX3_signAt_13 : nv_dk qX3_signAt 13 60 15 := Or.inr (Or.inl ⟨60, ⟨by decide +kernel, rfl⟩, by decide⟩)
theorem dX3_signAt_15 : nv_dic qX3_signAt 15 .ge 27 18 := ⟨12, by decide +kernel, by decide, rfl⟩
theorem dX3_signAt_18 : nv_daload qX3_signAt 18 0 19 := Or.inr ⟨0, rfl, by decide +kernel, rfl⟩
theorem dX3_signAt_19 : nv_dc qX3_signAt 19 (.getfield 9) 3 22 := ⟨by decide +kernel, rfl⟩
theorem dX3_signAt_22 : nv_diload qX3_signAt 22 1 23 := Or.inr ⟨1, rfl, by decide +kernel, rfl⟩
theorem dX3_signAt_23 : nv_dc qX3_signAt 23 (.iaload) 1 24 := ⟨by decide +kernel, rfl⟩
theorem dX3_signAt_24 : nv_dgo qX3_signAt 24 28 := ⟨4, by decide +kernel, by decide⟩
theorem dX3_signAt_27 : nv_dk qX3_signAt 27 (-1) 28 := Or.inl ⟨(-1), ⟨by decide +kernel, rfl⟩, by decide⟩
theorem dX3_signAt_28 : decode qX3_signAt.2.1 28 = .ok (.ireturn, 1) := by decide +kernel
def fw_signAt (h : nv_Hp) (k0 : Nat) (x1 : Int32) : Option (Int32) := (if x1 < 0 then some (-1) else (if (h k0 2) ≤ x1 then some (-1) else (if 60 ≤ x1 then some (-1) else (if nv_inb x1 60 = true then some (h (k0 + 1) x1.toNatClampNeg) else none))))
set_option maxHeartbeats 2000000 in
theorem tw_signAt (G : nv_G) (h : nv_Hp) (k0 : Nat) (hk0 : nv_O 3 k0) (x1 : Int32) {r : Int32} (hf : (fw_signAt h k0 x1) = some r) : nv_Mt G 0 qX3_signAt [.ref k0, .int x1] (nv_s h) (some (.int r), nv_s h) := by
  refine nv_of (by decide +kernel) (fun ad => Nat.le_of_ble_eq_true rfl) (Nat.le_refl _) (Nat.le_of_ble_eq_true rfl) ?_
  show nv_E G 0 qX3_signAt 0 [some (.ref k0), some (.int x1)] [] (nv_s h) (some (.int r), nv_s h)
  unfold fw_signAt at hf
  refine nv_iL dX3_signAt_0 rfl ?_
  refine nv_iflt dX3_signAt_1 (fun c1 => ?_) (fun c1 => ?_)
  · replace hf := nv_ip c1 hf
    refine nv_k dX3_signAt_27 ?_
    obtain rfl := Option.some.inj hf
    exact nv_ireturnI dX3_signAt_28 rfl
  · replace hf := nv_in c1 hf
    refine nv_iL dX3_signAt_4 rfl ?_
    refine nv_aL dX3_signAt_5 rfl ?_
    refine nv_gI lf_X3_21 dX3_signAt_6 hk0 rfl ?_
    refine nv_icge dX3_signAt_9 (fun c2 => ?_) (fun c2 => ?_)
    · replace hf := nv_ip c2 hf
      refine nv_k dX3_signAt_27 ?_
      obtain rfl := Option.some.inj hf
      exact nv_ireturnI dX3_signAt_28 rfl
    · replace hf := nv_in c2 hf
      refine nv_iL dX3_signAt_12 rfl ?_
      refine nv_k dX3_signAt_13 ?_
      refine nv_icge dX3_signAt_15 (fun c3 => ?_) (fun c3 => ?_)
      · replace hf := nv_ip c3 hf
        refine nv_k dX3_signAt_27 ?_
        obtain rfl := Option.some.inj hf
        exact nv_ireturnI dX3_signAt_28 rfl
      · replace hf := nv_in c3 hf
        refine nv_aL dX3_signAt_18 rfl ?_
        refine nv_gR (t := (k0 + 1)) lf_X3_9 dX3_signAt_19 hk0 rfl ?_
        refine nv_iL dX3_signAt_22 rfl ?_
        obtain ⟨g4, hf⟩ := nv_gd hf
        refine nv_aI dX3_signAt_23 (nv_o3b hk0) g4 rfl ?_
        refine nv_goto dX3_signAt_24 ?_
        obtain rfl := Option.some.inj hf
        exact nv_ireturnI dX3_signAt_28 rfl
/-! WhoseName$Law.letterOf -/
theorem dX3_letterOf_0 : nv_dk qX3_letterOf 0 0 1 := Or.inl ⟨0, ⟨by decide +kernel, rfl⟩, by decide⟩
theorem dX3_letterOf_1 : nv_distore qX3_letterOf 1 1 2 := Or.inr ⟨1, rfl, by decide +kernel, rfl⟩
theorem dX3_letterOf_2 : nv_diload qX3_letterOf 2 1 3 := Or.inr ⟨1, rfl, by decide +kernel, rfl⟩
theorem dX3_letterOf_3 : nv_dk qX3_letterOf 3 9 5 := Or.inr (Or.inl ⟨9, ⟨by decide +kernel, rfl⟩, by decide⟩)
theorem dX3_letterOf_5 : nv_dic qX3_letterOf 5 .ge 25 8 := ⟨20, by decide +kernel, by decide, rfl⟩
theorem dX3_letterOf_8 : nv_dc qX3_letterOf 8 (.getstatic 61) 3 11 := ⟨by decide +kernel, rfl⟩
theorem dX3_letterOf_11 : nv_diload qX3_letterOf 11 1 12 := Or.inr ⟨1, rfl, by decide +kernel, rfl⟩
theorem dX3_letterOf_12 : nv_dc qX3_letterOf 12 (.caload) 1 13 := ⟨by decide +kernel, rfl⟩
theorem dX3_letterOf_13 : nv_diload qX3_letterOf 13 0 14 := Or.inr ⟨0, rfl, by decide +kernel, rfl⟩
theorem dX3_letterOf_14 : nv_dic qX3_letterOf 14 .ne 19 17 := ⟨5, by decide +kernel, by decide, rfl⟩
theorem dX3_letterOf_17 : nv_diload qX3_letterOf 17 1 18 := Or.inr ⟨1, rfl, by decide +kernel, rfl⟩
theorem dX3_letterOf_18 : decode qX3_letterOf.2.1 18 = .ok (.ireturn, 1) := by decide +kernel
theorem dX3_letterOf_19 : nv_dc qX3_letterOf 19 (.iinc 1 1) 3 22 := ⟨by decide +kernel, rfl⟩
theorem dX3_letterOf_22 : nv_dgo qX3_letterOf 22 2 := ⟨(-20), by decide +kernel, by decide⟩
theorem dX3_letterOf_25 : nv_dk qX3_letterOf 25 (-1) 26 := Or.inl ⟨(-1), ⟨by decide +kernel, rfl⟩, by decide⟩
theorem dX3_letterOf_26 : decode qX3_letterOf.2.1 26 = .ok (.ireturn, 1) := by decide +kernel
def fw_letterOf_2 (h : nv_Hp) (x0 : Int32)  : Nat → Int32 → Option (Int32)
  | 0, _ => none
  | n + 1, x1 => (if 9 ≤ x1 then some (-1) else (if nv_inb x1 9 = true then (if (List.getD [98, 115, 112, 116, 97, 119, 110, 111, 99] x1.toNatClampNeg 0) = x0 then some x1 else ((fw_letterOf_2 h x0 n) (x1 + 1))) else none))
set_option maxHeartbeats 2000000 in
theorem tw_letterOf_2 (G : nv_G) (h : nv_Hp) (x0 : Int32)  : ∀ (n : Nat) (x1 : Int32) (r : Int32), fw_letterOf_2 h x0 n x1 = some r → nv_E G 0 qX3_letterOf 2 [some (.int x0), some (.int x1)] [] (nv_s h) (some (.int r), nv_s h) := by
  intro n
  induction n with
  | zero =>
    intro x1 r hf
    rw [fw_letterOf_2] at hf
    cases hf
  | succ n ih =>
    intro x1 r hf
    rw [fw_letterOf_2] at hf
    refine nv_iL dX3_letterOf_2 rfl ?_
    refine nv_k dX3_letterOf_3 ?_
    refine nv_icge dX3_letterOf_5 (fun c1 => ?_) (fun c1 => ?_)
    · replace hf := nv_ip c1 hf
      refine nv_k dX3_letterOf_25 ?_
      obtain rfl := Option.some.inj hf
      exact nv_ireturnI dX3_letterOf_26 rfl
    · replace hf := nv_in c1 hf
      refine nv_getsN (i := 0) dX3_letterOf_8 rfl ls_X3_61 ?_
      refine nv_iL dX3_letterOf_11 rfl ?_
      obtain ⟨g2, hf⟩ := nv_gd hf
      refine nv_caldS (i := 0) dX3_letterOf_12 rfl g2 ?_
      refine nv_iL dX3_letterOf_13 rfl ?_
      refine nv_icne dX3_letterOf_14 (fun c3 => ?_) (fun c3 => ?_)
      · replace hf := nv_ip c3 hf
        refine nv_iL dX3_letterOf_17 rfl ?_
        obtain rfl := Option.some.inj hf
        exact nv_ireturnI dX3_letterOf_18 rfl
      · replace hf := nv_in c3 hf
        refine nv_inc dX3_letterOf_19 rfl (v := 1) (by decide) (by decide) rfl rfl ?_
        refine nv_goto dX3_letterOf_22 ?_
        exact ih _ _ hf
def fw_letterOf (h : nv_Hp) (x0 : Int32) : Option (Int32) := (fw_letterOf_2 h x0 nv_fu 0)
set_option maxHeartbeats 2000000 in
theorem tw_letterOf (G : nv_G) (h : nv_Hp) (x0 : Int32) {r : Int32} (hf : (fw_letterOf h x0) = some r) : nv_Mt G 0 qX3_letterOf [.int x0] (nv_s h) (some (.int r), nv_s h) := by
  refine nv_of (by decide +kernel) (fun ad => Nat.le_of_ble_eq_true rfl) (Nat.le_refl _) (Nat.le_of_ble_eq_true rfl) ?_
  show nv_E G 0 qX3_letterOf 0 [some (.int x0), none] [] (nv_s h) (some (.int r), nv_s h)
  unfold fw_letterOf at hf
  refine nv_k dX3_letterOf_0 ?_
  refine nv_iS dX3_letterOf_1 (by decide) rfl rfl ?_
  exact tw_letterOf_2 G _ _ _ _ _ hf
/-! WhoseName$Law.isFigureAt -/
theorem dX3_isFigureAt_0 : nv_daload qX3_isFigureAt 0 0 1 := Or.inr ⟨0, rfl, by decide +kernel, rfl⟩
theorem dX3_isFigureAt_1 : nv_diload qX3_isFigureAt 1 1 2 := Or.inr ⟨1, rfl, by decide +kernel, rfl⟩
theorem dX3_isFigureAt_2 : nv_dc qX3_isFigureAt 2 (.invokevirtual 44) 3 5 := ⟨by decide +kernel, rfl⟩
theorem dX3_isFigureAt_5 : nv_distore qX3_isFigureAt 5 2 6 := Or.inr ⟨2, rfl, by decide +kernel, rfl⟩
theorem dX3_isFigureAt_6 : nv_diload qX3_isFigureAt 6 2 7 := Or.inr ⟨2, rfl, by decide +kernel, rfl⟩
theorem dX3_isFigureAt_7 : nv_dk qX3_isFigureAt 7 48 9 := Or.inr (Or.inl ⟨48, ⟨by decide +kernel, rfl⟩, by decide⟩)
theorem dX3_isFigureAt_9 : nv_dic qX3_isFigureAt 9 .lt 22 12 := ⟨13, by decide +kernel, by decide, rfl⟩
theorem dX3_isFigureAt_12 : nv_diload qX3_isFigureAt 12 2 13 := Or.inr ⟨2, rfl, by decide +kernel, rfl⟩
theorem dX3_isFigureAt_13 : nv_dk qX3_isFigureAt 13 57 15 := Or.inr (Or.inl ⟨57, ⟨by decide +kernel, rfl⟩, by decide⟩)
theorem dX3_isFigureAt_15 : nv_dic qX3_isFigureAt 15 .gt 22 18 := ⟨7, by decide +kernel, by decide, rfl⟩
theorem dX3_isFigureAt_18 : nv_dk qX3_isFigureAt 18 1 19 := Or.inl ⟨1, ⟨by decide +kernel, rfl⟩, by decide⟩
theorem dX3_isFigureAt_19 : nv_dgo qX3_isFigureAt 19 23 := ⟨4, by decide +kernel, by decide⟩
theorem dX3_isFigureAt_22 : nv_dk qX3_isFigureAt 22 0 23 := Or.inl ⟨0, ⟨by decide +kernel, rfl⟩, by decide⟩
theorem dX3_isFigureAt_23 : decode qX3_isFigureAt.2.1 23 = .ok (.ireturn, 1) := by decide +kernel
def fw_isFigureAt (h : nv_Hp) (k0 : Nat) (x1 : Int32) : Option (Bool) := (Option.bind (fw_signAt h k0 x1) fun q1 => (if q1 < 48 then some false else (if 57 < q1 then some false else some true)))
set_option maxHeartbeats 2000000 in
theorem tw_isFigureAt (G : nv_G) (h : nv_Hp) (k0 : Nat) (hk0 : nv_O 3 k0) (x1 : Int32) {r : Bool} (hf : (fw_isFigureAt h k0 x1) = some r) : nv_Mt G 1 qX3_isFigureAt [.ref k0, .int x1] (nv_s h) (some (.int (nv_bi r)), nv_s h) := by
  refine nv_of (by decide +kernel) (fun ad => Nat.le_of_ble_eq_true rfl) (Nat.le_refl _) (Nat.le_of_ble_eq_true rfl) ?_
  show nv_E G 1 qX3_isFigureAt 0 [some (.ref k0), some (.int x1), none] [] (nv_s h) (some (.int (nv_bi r)), nv_s h)
  unfold fw_isFigureAt at hf
  refine nv_aL dX3_isFigureAt_0 rfl ?_
  refine nv_iL dX3_isFigureAt_1 rfl ?_
  obtain ⟨q1, hq1, hf⟩ := nv_bd hf
  refine nv_cVi (tw_signAt G h k0 hk0 x1 hq1) dX3_isFigureAt_2 lm_X3_44 y_qX3_signAt hk0 rfl rfl (by decide) rfl (Nat.le_of_ble_eq_true rfl) ?_
  refine nv_iS dX3_isFigureAt_5 (by decide) rfl rfl ?_
  refine nv_iL dX3_isFigureAt_6 rfl ?_
  refine nv_k dX3_isFigureAt_7 ?_
  refine nv_iclt dX3_isFigureAt_9 (fun c2 => ?_) (fun c2 => ?_)
  · replace hf := nv_ip c2 hf
    refine nv_k dX3_isFigureAt_22 ?_
    obtain rfl := Option.some.inj hf
    exact nv_ireturnB (b := false) dX3_isFigureAt_23 rfl
  · replace hf := nv_in c2 hf
    refine nv_iL dX3_isFigureAt_12 rfl ?_
    refine nv_k dX3_isFigureAt_13 ?_
    refine nv_icgt dX3_isFigureAt_15 (fun c3 => ?_) (fun c3 => ?_)
    · replace hf := nv_ip c3 hf
      refine nv_k dX3_isFigureAt_22 ?_
      obtain rfl := Option.some.inj hf
      exact nv_ireturnB (b := false) dX3_isFigureAt_23 rfl
    · replace hf := nv_in c3 hf
      refine nv_k dX3_isFigureAt_18 ?_
      refine nv_goto dX3_isFigureAt_19 ?_
      obtain rfl := Option.some.inj hf
      exact nv_ireturnB (b := true) dX3_isFigureAt_23 rfl
/-! WhoseName$Law.figuresFrom -/
theorem dX3_figuresFrom_0 : nv_daload qX3_figuresFrom 0 0 1 := Or.inr ⟨0, rfl, by decide +kernel, rfl⟩
theorem dX3_figuresFrom_1 : nv_diload qX3_figuresFrom 1 1 2 := Or.inr ⟨1, rfl, by decide +kernel, rfl⟩
theorem dX3_figuresFrom_2 : nv_dc qX3_figuresFrom 2 (.invokevirtual 65) 3 5 := ⟨by decide +kernel, rfl⟩
theorem dX3_figuresFrom_5 : nv_dif qX3_figuresFrom 5 .ne 10 8 := ⟨5, by decide +kernel, by decide, rfl⟩
theorem dX3_figuresFrom_8 : nv_dk qX3_figuresFrom 8 0 9 := Or.inl ⟨0, ⟨by decide +kernel, rfl⟩, by decide⟩
theorem dX3_figuresFrom_9 : decode qX3_figuresFrom.2.1 9 = .ok (.ireturn, 1) := by decide +kernel
theorem dX3_figuresFrom_10 : nv_daload qX3_figuresFrom 10 0 11 := Or.inr ⟨0, rfl, by decide +kernel, rfl⟩
theorem dX3_figuresFrom_11 : nv_diload qX3_figuresFrom 11 1 12 := Or.inr ⟨1, rfl, by decide +kernel, rfl⟩
theorem dX3_figuresFrom_12 : nv_dk qX3_figuresFrom 12 1 13 := Or.inl ⟨1, ⟨by decide +kernel, rfl⟩, by decide⟩
theorem dX3_figuresFrom_13 : nv_dc qX3_figuresFrom 13 (.iadd) 1 14 := ⟨by decide +kernel, rfl⟩
theorem dX3_figuresFrom_14 : nv_dc qX3_figuresFrom 14 (.invokevirtual 65) 3 17 := ⟨by decide +kernel, rfl⟩
theorem dX3_figuresFrom_17 : nv_dif qX3_figuresFrom 17 .eq 24 20 := ⟨7, by decide +kernel, by decide, rfl⟩
theorem dX3_figuresFrom_20 : nv_dk qX3_figuresFrom 20 2 21 := Or.inl ⟨2, ⟨by decide +kernel, rfl⟩, by decide⟩
theorem dX3_figuresFrom_21 : nv_dgo qX3_figuresFrom 21 25 := ⟨4, by decide +kernel, by decide⟩
theorem dX3_figuresFrom_24 : nv_dk qX3_figuresFrom 24 1 25 := Or.inl ⟨1, ⟨by decide +kernel, rfl⟩, by decide⟩
theorem dX3_figuresFrom_25 : decode qX3_figuresFrom.2.1 25 = .ok (.ireturn, 1) := by decide +kernel
def fw_figuresFrom (h : nv_Hp) (k0 : Nat) (x1 : Int32) : Option (Int32) := (Option.bind (fw_isFigureAt h k0 x1) fun q1 => (if q1 = true then (Option.bind (fw_isFigureAt h k0 (x1 + 1)) fun q3 => (if q3 = true then some 2 else some 1)) else some 0))
set_option maxHeartbeats 2000000 in
theorem tw_figuresFrom (G : nv_G) (h : nv_Hp) (k0 : Nat) (hk0 : nv_O 3 k0) (x1 : Int32) {r : Int32} (hf : (fw_figuresFrom h k0 x1) = some r) : nv_Mt G 2 qX3_figuresFrom [.ref k0, .int x1] (nv_s h) (some (.int r), nv_s h) := by
  refine nv_of (by decide +kernel) (fun ad => Nat.le_of_ble_eq_true rfl) (Nat.le_refl _) (Nat.le_of_ble_eq_true rfl) ?_
  show nv_E G 2 qX3_figuresFrom 0 [some (.ref k0), some (.int x1)] [] (nv_s h) (some (.int r), nv_s h)
  unfold fw_figuresFrom at hf
  refine nv_aL dX3_figuresFrom_0 rfl ?_
  refine nv_iL dX3_figuresFrom_1 rfl ?_
  obtain ⟨q1, hq1, hf⟩ := nv_bd hf
  refine nv_cVi (tw_isFigureAt G h k0 hk0 x1 hq1) dX3_figuresFrom_2 lm_X3_65 y_qX3_isFigureAt hk0 rfl rfl (by decide) rfl (Nat.le_of_ble_eq_true rfl) ?_
  refine nv_ifneB dX3_figuresFrom_5 (fun c2 => ?_) (fun c2 => ?_)
  · replace hf := nv_ip c2 hf
    refine nv_aL dX3_figuresFrom_10 rfl ?_
    refine nv_iL dX3_figuresFrom_11 rfl ?_
    refine nv_k dX3_figuresFrom_12 ?_
    refine nv_iadd dX3_figuresFrom_13 ?_
    obtain ⟨q3, hq3, hf⟩ := nv_bd hf
    refine nv_cVi (tw_isFigureAt G h k0 hk0 (x1 + 1) hq3) dX3_figuresFrom_14 lm_X3_65 y_qX3_isFigureAt hk0 rfl rfl (by decide) rfl (Nat.le_of_ble_eq_true rfl) ?_
    refine nv_ifeqB dX3_figuresFrom_17 (fun c4 => ?_) (fun c4 => ?_)
    · replace hf := nv_ip c4 hf
      refine nv_k dX3_figuresFrom_20 ?_
      refine nv_goto dX3_figuresFrom_21 ?_
      obtain rfl := Option.some.inj hf
      exact nv_ireturnI dX3_figuresFrom_25 rfl
    · replace hf := nv_in c4 hf
      refine nv_k dX3_figuresFrom_24 ?_
      obtain rfl := Option.some.inj hf
      exact nv_ireturnI dX3_figuresFrom_25 rfl
  · replace hf := nv_in c2 hf
    refine nv_k dX3_figuresFrom_8 ?_
    obtain rfl := Option.some.inj hf
    exact nv_ireturnI dX3_figuresFrom_9 rfl
/-! WhoseName$Law.numberFrom -/
theorem dX3_numberFrom_0 : nv_dk qX3_numberFrom 0 0 1 := Or.inl ⟨0, ⟨by decide +kernel, rfl⟩, by decide⟩
theorem dX3_numberFrom_1 : nv_distore qX3_numberFrom 1 3 2 := Or.inr ⟨3, rfl, by decide +kernel, rfl⟩
theorem dX3_numberFrom_2 : nv_dk qX3_numberFrom 2 0 3 := Or.inl ⟨0, ⟨by decide +kernel, rfl⟩, by decide⟩
theorem dX3_numberFrom_3 : nv_distore qX3_numberFrom 3 4 5 := Or.inl ⟨by decide +kernel, rfl⟩
theorem dX3_numberFrom_5 : nv_diload qX3_numberFrom 5 4 7 := Or.inl ⟨by decide +kernel, rfl⟩
theorem dX3_numberFrom_7 : nv_diload qX3_numberFrom 7 2 8 := Or.inr ⟨2, rfl, by decide +kernel, rfl⟩
theorem dX3_numberFrom_8 : nv_dic qX3_numberFrom 8 .ge 34 11 := ⟨26, by decide +kernel, by decide, rfl⟩
theorem dX3_numberFrom_11 : nv_diload qX3_numberFrom 11 3 12 := Or.inr ⟨3, rfl, by decide +kernel, rfl⟩
theorem dX3_numberFrom_12 : nv_dk qX3_numberFrom 12 10 14 := Or.inr (Or.inl ⟨10, ⟨by decide +kernel, rfl⟩, by decide⟩)
theorem dX3_numberFrom_14 : nv_dc qX3_numberFrom 14 (.imul) 1 15 := ⟨by decide +kernel, rfl⟩
theorem dX3_numberFrom_15 : nv_daload qX3_numberFrom 15 0 16 := Or.inr ⟨0, rfl, by decide +kernel, rfl⟩
theorem dX3_numberFrom_16 : nv_diload qX3_numberFrom 16 1 17 := Or.inr ⟨1, rfl, by decide +kernel, rfl⟩
theorem dX3_numberFrom_17 : nv_diload qX3_numberFrom 17 4 19 := Or.inl ⟨by decide +kernel, rfl⟩
theorem dX3_numberFrom_19 : nv_dc qX3_numberFrom 19 (.iadd) 1 20 := ⟨by decide +kernel, rfl⟩
theorem dX3_numberFrom_20 : nv_dc qX3_numberFrom 20 (.invokevirtual 44) 3 23 := ⟨by decide +kernel, rfl⟩
theorem dX3_numberFrom_23 : nv_dc qX3_numberFrom 23 (.iadd) 1 24 := ⟨by decide +kernel, rfl⟩
theorem dX3_numberFrom_24 : nv_dk qX3_numberFrom 24 48 26 := Or.inr (Or.inl ⟨48, ⟨by decide +kernel, rfl⟩, by decide⟩)
theorem dX3_numberFrom_26 : nv_dc qX3_numberFrom 26 (.isub) 1 27 := ⟨by decide +kernel, rfl⟩
theorem dX3_numberFrom_27 : nv_distore qX3_numberFrom 27 3 28 := Or.inr ⟨3, rfl, by decide +kernel, rfl⟩
theorem dX3_numberFrom_28 : nv_dc qX3_numberFrom 28 (.iinc 4 1) 3 31 := ⟨by decide +kernel, rfl⟩
theorem dX3_numberFrom_31 : nv_dgo qX3_numberFrom 31 5 := ⟨(-26), by decide +kernel, by decide⟩
theorem dX3_numberFrom_34 : nv_diload qX3_numberFrom 34 3 35 := Or.inr ⟨3, rfl, by decide +kernel, rfl⟩
theorem dX3_numberFrom_35 : decode qX3_numberFrom.2.1 35 = .ok (.ireturn, 1) := by decide +kernel
def fw_numberFrom_5 (h : nv_Hp) (k0 : Nat) (x1 : Int32) (x2 : Int32)  : Nat → Int32 → Int32 → Option (Int32)
  | 0, _, _ => none
  | n + 1, x3, x4 => (if x2 ≤ x4 then some x3 else (Option.bind (fw_signAt h k0 (x1 + x4)) fun q2 => (nv_lt ((((x3 * 10) + q2) - 48)) fun v3 => ((fw_numberFrom_5 h k0 x1 x2 n) v3 (x4 + 1)))))
set_option maxHeartbeats 2000000 in
theorem tw_numberFrom_5 (G : nv_G) (h : nv_Hp) (k0 : Nat) (hk0 : nv_O 3 k0) (x1 : Int32) (x2 : Int32)  : ∀ (n : Nat) (x3 : Int32) (x4 : Int32) (r : Int32), fw_numberFrom_5 h k0 x1 x2 n x3 x4 = some r → nv_E G 1 qX3_numberFrom 5 [some (.ref k0), some (.int x1), some (.int x2), some (.int x3), some (.int x4)] [] (nv_s h) (some (.int r), nv_s h) := by
  intro n
  induction n with
  | zero =>
    intro x3 x4 r hf
    rw [fw_numberFrom_5] at hf
    cases hf
  | succ n ih =>
    intro x3 x4 r hf
    rw [fw_numberFrom_5] at hf
    refine nv_iL dX3_numberFrom_5 rfl ?_
    refine nv_iL dX3_numberFrom_7 rfl ?_
    refine nv_icge dX3_numberFrom_8 (fun c1 => ?_) (fun c1 => ?_)
    · replace hf := nv_ip c1 hf
      refine nv_iL dX3_numberFrom_34 rfl ?_
      obtain rfl := Option.some.inj hf
      exact nv_ireturnI dX3_numberFrom_35 rfl
    · replace hf := nv_in c1 hf
      refine nv_iL dX3_numberFrom_11 rfl ?_
      refine nv_k dX3_numberFrom_12 ?_
      refine nv_imul dX3_numberFrom_14 ?_
      refine nv_aL dX3_numberFrom_15 rfl ?_
      refine nv_iL dX3_numberFrom_16 rfl ?_
      refine nv_iL dX3_numberFrom_17 rfl ?_
      refine nv_iadd dX3_numberFrom_19 ?_
      obtain ⟨q2, hq2, hf⟩ := nv_bd hf
      refine nv_cVi (tw_signAt G h k0 hk0 (x1 + x4) hq2) dX3_numberFrom_20 lm_X3_44 y_qX3_signAt hk0 rfl rfl (by decide) rfl (Nat.le_of_ble_eq_true rfl) ?_
      refine nv_iadd dX3_numberFrom_23 ?_
      refine nv_k dX3_numberFrom_24 ?_
      refine nv_isub dX3_numberFrom_26 ?_
      obtain ⟨v3, ev3, hf⟩ := nv_ltX hf
      rw [ev3]
      clear ev3
      refine nv_iS dX3_numberFrom_27 (by decide) rfl rfl ?_
      refine nv_inc dX3_numberFrom_28 rfl (v := 1) (by decide) (by decide) rfl rfl ?_
      refine nv_goto dX3_numberFrom_31 ?_
      exact ih _ _ _ hf
def fw_numberFrom (h : nv_Hp) (k0 : Nat) (x1 : Int32) (x2 : Int32) : Option (Int32) := (fw_numberFrom_5 h k0 x1 x2 nv_fu 0 0)
set_option maxHeartbeats 2000000 in
theorem tw_numberFrom (G : nv_G) (h : nv_Hp) (k0 : Nat) (hk0 : nv_O 3 k0) (x1 : Int32) (x2 : Int32) {r : Int32} (hf : (fw_numberFrom h k0 x1 x2) = some r) : nv_Mt G 1 qX3_numberFrom [.ref k0, .int x1, .int x2] (nv_s h) (some (.int r), nv_s h) := by
  refine nv_of (by decide +kernel) (fun ad => Nat.le_of_ble_eq_true rfl) (Nat.le_refl _) (Nat.le_of_ble_eq_true rfl) ?_
  show nv_E G 1 qX3_numberFrom 0 [some (.ref k0), some (.int x1), some (.int x2), none, none] [] (nv_s h) (some (.int r), nv_s h)
  unfold fw_numberFrom at hf
  refine nv_k dX3_numberFrom_0 ?_
  refine nv_iS dX3_numberFrom_1 (by decide) rfl rfl ?_
  refine nv_k dX3_numberFrom_2 ?_
  refine nv_iS dX3_numberFrom_3 (by decide) rfl rfl ?_
  exact tw_numberFrom_5 G _ _ hk0 _ _ _ _ _ _ hf
/-! WhoseName$Law.takeParts -/
theorem dX3_takeParts_0 : nv_dk qX3_takeParts 0 0 1 := Or.inl ⟨0, ⟨by decide +kernel, rfl⟩, by decide⟩
theorem dX3_takeParts_1 : nv_distore qX3_takeParts 1 1 2 := Or.inr ⟨1, rfl, by decide +kernel, rfl⟩
theorem dX3_takeParts_2 : nv_dk qX3_takeParts 2 0 3 := Or.inl ⟨0, ⟨by decide +kernel, rfl⟩, by decide⟩
theorem dX3_takeParts_3 : nv_distore qX3_takeParts 3 2 4 := Or.inr ⟨2, rfl, by decide +kernel, rfl⟩
theorem dX3_takeParts_4 : nv_diload qX3_takeParts 4 2 5 := Or.inr ⟨2, rfl, by decide +kernel, rfl⟩
theorem dX3_takeParts_5 : nv_dk qX3_takeParts 5 60 7 := Or.inr (Or.inl ⟨60, ⟨by decide +kernel, rfl⟩, by decide⟩)
theorem dX3_takeParts_7 : nv_dic qX3_takeParts 7 .ge 138 10 := ⟨131, by decide +kernel, by decide, rfl⟩
theorem dX3_takeParts_10 : nv_diload qX3_takeParts 10 1 11 := Or.inr ⟨1, rfl, by decide +kernel, rfl⟩
theorem dX3_takeParts_11 : nv_daload qX3_takeParts 11 0 12 := Or.inr ⟨0, rfl, by decide +kernel, rfl⟩
theorem dX3_takeParts_12 : nv_dc qX3_takeParts 12 (.getfield 21) 3 15 := ⟨by decide +kernel, rfl⟩
theorem dX3_takeParts_15 : nv_dic qX3_takeParts 15 .gt 138 18 := ⟨123, by decide +kernel, by decide, rfl⟩
theorem dX3_takeParts_18 : nv_daload qX3_takeParts 18 0 19 := Or.inr ⟨0, rfl, by decide +kernel, rfl⟩
theorem dX3_takeParts_19 : nv_diload qX3_takeParts 19 1 20 := Or.inr ⟨1, rfl, by decide +kernel, rfl⟩
theorem dX3_takeParts_20 : nv_dc qX3_takeParts 20 (.invokevirtual 44) 3 23 := ⟨by decide +kernel, rfl⟩
theorem dX3_takeParts_23 : nv_dc qX3_takeParts 23 (.invokestatic 48) 3 26 := ⟨by decide +kernel, rfl⟩
theorem dX3_takeParts_26 : nv_distore qX3_takeParts 26 3 27 := Or.inr ⟨3, rfl, by decide +kernel, rfl⟩
theorem dX3_takeParts_27 : nv_diload qX3_takeParts 27 3 28 := Or.inr ⟨3, rfl, by decide +kernel, rfl⟩
theorem dX3_takeParts_28 : nv_dk qX3_takeParts 28 (-1) 29 := Or.inl ⟨(-1), ⟨by decide +kernel, rfl⟩, by decide⟩
theorem dX3_takeParts_29 : nv_dic qX3_takeParts 29 .ne 34 32 := ⟨5, by decide +kernel, by decide, rfl⟩
theorem dX3_takeParts_32 : nv_diload qX3_takeParts 32 1 33 := Or.inr ⟨1, rfl, by decide +kernel, rfl⟩
theorem dX3_takeParts_33 : decode qX3_takeParts.2.1 33 = .ok (.ireturn, 1) := by decide +kernel
theorem dX3_takeParts_34 : nv_daload qX3_takeParts 34 0 35 := Or.inr ⟨0, rfl, by decide +kernel, rfl⟩
theorem dX3_takeParts_35 : nv_diload qX3_takeParts 35 1 36 := Or.inr ⟨1, rfl, by decide +kernel, rfl⟩
theorem dX3_takeParts_36 : nv_dk qX3_takeParts 36 1 37 := Or.inl ⟨1, ⟨by decide +kernel, rfl⟩, by decide⟩
theorem dX3_takeParts_37 : nv_dc qX3_takeParts 37 (.iadd) 1 38 := ⟨by decide +kernel, rfl⟩
theorem dX3_takeParts_38 : nv_dc qX3_takeParts 38 (.invokevirtual 44) 3 41 := ⟨by decide +kernel, rfl⟩
theorem dX3_takeParts_41 : nv_dk qX3_takeParts 41 61 43 := Or.inr (Or.inl ⟨61, ⟨by decide +kernel, rfl⟩, by decide⟩)
theorem dX3_takeParts_43 : nv_dic qX3_takeParts 43 .eq 50 46 := ⟨7, by decide +kernel, by decide, rfl⟩
theorem dX3_takeParts_46 : nv_diload qX3_takeParts 46 1 47 := Or.inr ⟨1, rfl, by decide +kernel, rfl⟩
theorem dX3_takeParts_47 : nv_dk qX3_takeParts 47 1 48 := Or.inl ⟨1, ⟨by decide +kernel, rfl⟩, by decide⟩
theorem dX3_takeParts_48 : nv_dc qX3_takeParts 48 (.iadd) 1 49 := ⟨by decide +kernel, rfl⟩
theorem dX3_takeParts_49 : decode qX3_takeParts.2.1 49 = .ok (.ireturn, 1) := by decide +kernel
theorem dX3_takeParts_50 : nv_daload qX3_takeParts 50 0 51 := Or.inr ⟨0, rfl, by decide +kernel, rfl⟩
theorem dX3_takeParts_51 : nv_diload qX3_takeParts 51 1 52 := Or.inr ⟨1, rfl, by decide +kernel, rfl⟩
theorem dX3_takeParts_52 : nv_dk qX3_takeParts 52 2 53 := Or.inl ⟨2, ⟨by decide +kernel, rfl⟩, by decide⟩
theorem dX3_takeParts_53 : nv_dc qX3_takeParts 53 (.iadd) 1 54 := ⟨by decide +kernel, rfl⟩
theorem dX3_takeParts_54 : nv_dc qX3_takeParts 54 (.invokevirtual 51) 3 57 := ⟨by decide +kernel, rfl⟩
theorem dX3_takeParts_57 : nv_distore qX3_takeParts 57 4 59 := Or.inl ⟨by decide +kernel, rfl⟩
theorem dX3_takeParts_59 : nv_diload qX3_takeParts 59 4 61 := Or.inl ⟨by decide +kernel, rfl⟩
theorem dX3_takeParts_61 : nv_dif qX3_takeParts 61 .eq 81 64 := ⟨20, by decide +kernel, by decide, rfl⟩
theorem dX3_takeParts_64 : nv_daload qX3_takeParts 64 0 65 := Or.inr ⟨0, rfl, by decide +kernel, rfl⟩
theorem dX3_takeParts_65 : nv_diload qX3_takeParts 65 1 66 := Or.inr ⟨1, rfl, by decide +kernel, rfl⟩
theorem dX3_takeParts_66 : nv_dk qX3_takeParts 66 2 67 := Or.inl ⟨2, ⟨by decide +kernel, rfl⟩, by decide⟩
theorem dX3_takeParts_67 : nv_dc qX3_takeParts 67 (.iadd) 1 68 := ⟨by decide +kernel, rfl⟩
theorem dX3_takeParts_68 : nv_diload qX3_takeParts 68 4 70 := Or.inl ⟨by decide +kernel, rfl⟩
theorem dX3_takeParts_70 : nv_dc qX3_takeParts 70 (.invokevirtual 54) 3 73 := ⟨by decide +kernel, rfl⟩
theorem dX3_takeParts_73 : nv_dc qX3_takeParts 73 (.getstatic 58) 3 76 := ⟨by decide +kernel, rfl⟩
theorem dX3_takeParts_76 : nv_diload qX3_takeParts 76 3 77 := Or.inr ⟨3, rfl, by decide +kernel, rfl⟩
theorem dX3_takeParts_77 : nv_dc qX3_takeParts 77 (.iaload) 1 78 := ⟨by decide +kernel, rfl⟩
theorem dX3_takeParts_78 : nv_dic qX3_takeParts 78 .le 85 81 := ⟨7, by decide +kernel, by decide, rfl⟩
theorem dX3_takeParts_81 : nv_diload qX3_takeParts 81 1 82 := Or.inr ⟨1, rfl, by decide +kernel, rfl⟩
theorem dX3_takeParts_82 : nv_dk qX3_takeParts 82 2 83 := Or.inl ⟨2, ⟨by decide +kernel, rfl⟩, by decide⟩
theorem dX3_takeParts_83 : nv_dc qX3_takeParts 83 (.iadd) 1 84 := ⟨by decide +kernel, rfl⟩
theorem dX3_takeParts_84 : decode qX3_takeParts.2.1 84 = .ok (.ireturn, 1) := by decide +kernel
theorem dX3_takeParts_85 : nv_daload qX3_takeParts 85 0 86 := Or.inr ⟨0, rfl, by decide +kernel, rfl⟩
theorem dX3_takeParts_86 : nv_dc qX3_takeParts 86 (.getfield 15) 3 89 := ⟨by decide +kernel, rfl⟩
theorem dX3_takeParts_89 : nv_diload qX3_takeParts 89 3 90 := Or.inr ⟨3, rfl, by decide +kernel, rfl⟩
theorem dX3_takeParts_90 : nv_daload qX3_takeParts 90 0 91 := Or.inr ⟨0, rfl, by decide +kernel, rfl⟩
theorem dX3_takeParts_91 : nv_diload qX3_takeParts 91 1 92 := Or.inr ⟨1, rfl, by decide +kernel, rfl⟩
theorem dX3_takeParts_92 : nv_dk qX3_takeParts 92 2 93 := Or.inl ⟨2, ⟨by decide +kernel, rfl⟩, by decide⟩
theorem dX3_takeParts_93 : nv_dc qX3_takeParts 93 (.iadd) 1 94 := ⟨by decide +kernel, rfl⟩
theorem dX3_takeParts_94 : nv_diload qX3_takeParts 94 4 96 := Or.inl ⟨by decide +kernel, rfl⟩
theorem dX3_takeParts_96 : nv_dc qX3_takeParts 96 (.invokevirtual 54) 3 99 := ⟨by decide +kernel, rfl⟩
theorem dX3_takeParts_99 : nv_dc qX3_takeParts 99 (.iastore) 1 100 := ⟨by decide +kernel, rfl⟩
theorem dX3_takeParts_100 : nv_diload qX3_takeParts 100 1 101 := Or.inr ⟨1, rfl, by decide +kernel, rfl⟩
theorem dX3_takeParts_101 : nv_dk qX3_takeParts 101 2 102 := Or.inl ⟨2, ⟨by decide +kernel, rfl⟩, by decide⟩
theorem dX3_takeParts_102 : nv_diload qX3_takeParts 102 4 104 := Or.inl ⟨by decide +kernel, rfl⟩
theorem dX3_takeParts_104 : nv_dc qX3_takeParts 104 (.iadd) 1 105 := ⟨by decide +kernel, rfl⟩
theorem dX3_takeParts_105 : nv_dc qX3_takeParts 105 (.iadd) 1 106 := ⟨by decide +kernel, rfl⟩
theorem dX3_takeParts_106 : nv_distore qX3_takeParts 106 1 107 := Or.inr ⟨1, rfl, by decide +kernel, rfl⟩
theorem dX3_takeParts_107 : nv_diload qX3_takeParts 107 1 108 := Or.inr ⟨1, rfl, by decide +kernel, rfl⟩
theorem dX3_takeParts_108 : nv_daload qX3_takeParts 108 0 109 := Or.inr ⟨0, rfl, by decide +kernel, rfl⟩
theorem dX3_takeParts_109 : nv_dc qX3_takeParts 109 (.getfield 21) 3 112 := ⟨by decide +kernel, rfl⟩
theorem dX3_takeParts_112 : nv_dic qX3_takeParts 112 .lt 117 115 := ⟨5, by decide +kernel, by decide, rfl⟩
theorem dX3_takeParts_115 : nv_dk qX3_takeParts 115 (-1) 116 := Or.inl ⟨(-1), ⟨by decide +kernel, rfl⟩, by decide⟩
theorem dX3_takeParts_116 : decode qX3_takeParts.2.1 116 = .ok (.ireturn, 1) := by decide +kernel
theorem dX3_takeParts_117 : nv_daload qX3_takeParts 117 0 118 := Or.inr ⟨0, rfl, by decide +kernel, rfl⟩
theorem dX3_takeParts_118 : nv_diload qX3_takeParts 118 1 119 := Or.inr ⟨1, rfl, by decide +kernel, rfl⟩
theorem dX3_takeParts_119 : nv_dc qX3_takeParts 119 (.invokevirtual 44) 3 122 := ⟨by decide +kernel, rfl⟩
theorem dX3_takeParts_122 : nv_dk qX3_takeParts 122 59 124 := Or.inr (Or.inl ⟨59, ⟨by decide +kernel, rfl⟩, by decide⟩)
theorem dX3_takeParts_124 : nv_dic qX3_takeParts 124 .eq 129 127 := ⟨5, by decide +kernel, by decide, rfl⟩
theorem dX3_takeParts_127 : nv_diload qX3_takeParts 127 1 128 := Or.inr ⟨1, rfl, by decide +kernel, rfl⟩
theorem dX3_takeParts_128 : decode qX3_takeParts.2.1 128 = .ok (.ireturn, 1) := by decide +kernel
theorem dX3_takeParts_129 : nv_dc qX3_takeParts 129 (.iinc 1 1) 3 132 := ⟨by decide +kernel, rfl⟩
theorem dX3_takeParts_132 : nv_dc qX3_takeParts 132 (.iinc 2 1) 3 135 := ⟨by decide +kernel, rfl⟩
theorem dX3_takeParts_135 : nv_dgo qX3_takeParts 135 4 := ⟨(-131), by decide +kernel, by decide⟩
theorem dX3_takeParts_138 : nv_diload qX3_takeParts 138 1 139 := Or.inr ⟨1, rfl, by decide +kernel, rfl⟩
theorem dX3_takeParts_139 : decode qX3_takeParts.2.1 139 = .ok (.ireturn, 1) := by decide +kernel
def fw_takeParts_4  (k0 : Nat)  : Nat → Int32 → Int32 → nv_Hp → Option (Int32 × nv_Hp)
  | 0, _, _, _ => none
  | n + 1, x1, x2, h => (if 60 ≤ x2 then some (x1, h) else (if (h k0 2) < x1 then some (x1, h) else (Option.bind (fw_signAt h k0 x1) fun q3 => (Option.bind (fw_letterOf h q3) fun q4 => (if q4 = (-1) then some (x1, h) else (Option.bind (fw_signAt h k0 (x1 + 1)) fun q6 => (if q6 = 61 then (Option.bind (fw_figuresFrom h k0 (x1 + 2)) fun q8 => (if q8 = 0 then some ((x1 + 2), h) else (Option.bind (fw_numberFrom h k0 (x1 + 2) q8) fun q10 => (if nv_inb q4 9 = true then (if q10 ≤ (List.getD [2, 1, 99, 99, 99, 1, 2, 2, 9] q4.toNatClampNeg 0) then (Option.bind (fw_numberFrom h k0 (x1 + 2) q8) fun q13 => (nv_lt (nv_up h (k0 + 2) q4.toNatClampNeg q13) fun h14 => (nv_lt ((x1 + (2 + q8))) fun v15 => (if v15 < (h14 k0 2) then (Option.bind (fw_signAt h14 k0 v15) fun q17 => (if q17 = 59 then ((fw_takeParts_4 k0 n) (v15 + 1) (x2 + 1) h14) else some (v15, h14))) else some ((-1), h14))))) else some ((x1 + 2), h)) else none)))) else some ((x1 + 1), h))))))))
set_option maxHeartbeats 2000000 in
theorem tw_takeParts_4 (G : nv_G)  (k0 : Nat) (hk0 : nv_O 3 k0)  : ∀ (n : Nat) (x1 : Int32) (x2 : Int32) (h : nv_Hp) (o3 o4 : Option Value) (r : Int32 × nv_Hp), fw_takeParts_4 k0 n x1 x2 h = some r → nv_E G 3 qX3_takeParts 4 [some (.ref k0), some (.int x1), some (.int x2), o3, o4] [] (nv_s h) (some (.int r.1), nv_s r.2) := by
  intro n
  induction n with
  | zero =>
    intro x1 x2 h o3 o4 r hf
    rw [fw_takeParts_4] at hf
    cases hf
  | succ n ih =>
    intro x1 x2 h o3 o4 r hf
    rw [fw_takeParts_4] at hf
    refine nv_iL dX3_takeParts_4 rfl ?_
    refine nv_k dX3_takeParts_5 ?_
    refine nv_icge dX3_takeParts_7 (fun c1 => ?_) (fun c1 => ?_)
    · replace hf := nv_ip c1 hf
      refine nv_iL dX3_takeParts_138 rfl ?_
      obtain rfl := Option.some.inj hf
      exact nv_ireturnI dX3_takeParts_139 rfl
    · replace hf := nv_in c1 hf
      refine nv_iL dX3_takeParts_10 rfl ?_
      refine nv_aL dX3_takeParts_11 rfl ?_
      refine nv_gI lf_X3_21 dX3_takeParts_12 hk0 rfl ?_
      refine nv_icgt dX3_takeParts_15 (fun c2 => ?_) (fun c2 => ?_)
      · replace hf := nv_ip c2 hf
        refine nv_iL dX3_takeParts_138 rfl ?_
        obtain rfl := Option.some.inj hf
        exact nv_ireturnI dX3_takeParts_139 rfl
      · replace hf := nv_in c2 hf
        refine nv_aL dX3_takeParts_18 rfl ?_
        refine nv_iL dX3_takeParts_19 rfl ?_
        obtain ⟨q3, hq3, hf⟩ := nv_bd hf
        refine nv_cVi (tw_signAt G h k0 hk0 x1 hq3) dX3_takeParts_20 lm_X3_44 y_qX3_signAt hk0 rfl rfl (by decide) rfl (Nat.le_of_ble_eq_true rfl) ?_
        obtain ⟨q4, hq4, hf⟩ := nv_bd hf
        refine nv_cSi (tw_letterOf G h q3 hq4) dX3_takeParts_23 lm_X3_48 y_qX3_letterOf rfl (by decide) rfl (Nat.le_of_ble_eq_true rfl) ?_
        refine nv_iS dX3_takeParts_26 (by decide) rfl rfl ?_
        refine nv_iL dX3_takeParts_27 rfl ?_
        refine nv_k dX3_takeParts_28 ?_
        refine nv_icne dX3_takeParts_29 (fun c5 => ?_) (fun c5 => ?_)
        · replace hf := nv_ip c5 hf
          refine nv_iL dX3_takeParts_32 rfl ?_
          obtain rfl := Option.some.inj hf
          exact nv_ireturnI dX3_takeParts_33 rfl
        · replace hf := nv_in c5 hf
          refine nv_aL dX3_takeParts_34 rfl ?_
          refine nv_iL dX3_takeParts_35 rfl ?_
          refine nv_k dX3_takeParts_36 ?_
          refine nv_iadd dX3_takeParts_37 ?_
          obtain ⟨q6, hq6, hf⟩ := nv_bd hf
          refine nv_cVi (tw_signAt G h k0 hk0 (x1 + 1) hq6) dX3_takeParts_38 lm_X3_44 y_qX3_signAt hk0 rfl rfl (by decide) rfl (Nat.le_of_ble_eq_true rfl) ?_
          refine nv_k dX3_takeParts_41 ?_
          refine nv_iceq dX3_takeParts_43 (fun c7 => ?_) (fun c7 => ?_)
          · replace hf := nv_ip c7 hf
            refine nv_aL dX3_takeParts_50 rfl ?_
            refine nv_iL dX3_takeParts_51 rfl ?_
            refine nv_k dX3_takeParts_52 ?_
            refine nv_iadd dX3_takeParts_53 ?_
            obtain ⟨q8, hq8, hf⟩ := nv_bd hf
            refine nv_cVi (tw_figuresFrom G h k0 hk0 (x1 + 2) hq8) dX3_takeParts_54 lm_X3_51 y_qX3_figuresFrom hk0 rfl rfl (by decide) rfl (Nat.le_of_ble_eq_true rfl) ?_
            refine nv_iS dX3_takeParts_57 (by decide) rfl rfl ?_
            refine nv_iL dX3_takeParts_59 rfl ?_
            refine nv_ifeq dX3_takeParts_61 (fun c9 => ?_) (fun c9 => ?_)
            · replace hf := nv_ip c9 hf
              refine nv_iL dX3_takeParts_81 rfl ?_
              refine nv_k dX3_takeParts_82 ?_
              refine nv_iadd dX3_takeParts_83 ?_
              obtain rfl := Option.some.inj hf
              exact nv_ireturnI dX3_takeParts_84 rfl
            · replace hf := nv_in c9 hf
              refine nv_aL dX3_takeParts_64 rfl ?_
              refine nv_iL dX3_takeParts_65 rfl ?_
              refine nv_k dX3_takeParts_66 ?_
              refine nv_iadd dX3_takeParts_67 ?_
              refine nv_iL dX3_takeParts_68 rfl ?_
              obtain ⟨q10, hq10, hf⟩ := nv_bd hf
              refine nv_cVi (tw_numberFrom G h k0 hk0 (x1 + 2) q8 hq10) dX3_takeParts_70 lm_X3_54 y_qX3_numberFrom hk0 rfl rfl (by decide) rfl (Nat.le_of_ble_eq_true rfl) ?_
              refine nv_getsN (i := 1) dX3_takeParts_73 rfl ls_X3_58 ?_
              refine nv_iL dX3_takeParts_76 rfl ?_
              obtain ⟨g11, hf⟩ := nv_gd hf
              refine nv_ialdS (i := 1) dX3_takeParts_77 rfl g11 ?_
              refine nv_icle dX3_takeParts_78 (fun c12 => ?_) (fun c12 => ?_)
              · replace hf := nv_ip c12 hf
                refine nv_aL dX3_takeParts_85 rfl ?_
                refine nv_gR (t := (k0 + 2)) lf_X3_15 dX3_takeParts_86 hk0 rfl ?_
                refine nv_iL dX3_takeParts_89 rfl ?_
                refine nv_aL dX3_takeParts_90 rfl ?_
                refine nv_iL dX3_takeParts_91 rfl ?_
                refine nv_k dX3_takeParts_92 ?_
                refine nv_iadd dX3_takeParts_93 ?_
                refine nv_iL dX3_takeParts_94 rfl ?_
                obtain ⟨q13, hq13, hf⟩ := nv_bd hf
                refine nv_cVi (tw_numberFrom G h k0 hk0 (x1 + 2) q8 hq13) dX3_takeParts_96 lm_X3_54 y_qX3_numberFrom hk0 rfl rfl (by decide) rfl (Nat.le_of_ble_eq_true rfl) ?_
                refine nv_aP dX3_takeParts_99 (nv_o3w hk0) g11 rfl ?_
                obtain ⟨h14, eh14, hf⟩ := nv_ltX hf
                rw [eh14]
                clear eh14
                refine nv_iL dX3_takeParts_100 rfl ?_
                refine nv_k dX3_takeParts_101 ?_
                refine nv_iL dX3_takeParts_102 rfl ?_
                refine nv_iadd dX3_takeParts_104 ?_
                refine nv_iadd dX3_takeParts_105 ?_
                obtain ⟨v15, ev15, hf⟩ := nv_ltX hf
                rw [ev15]
                clear ev15
                refine nv_iS dX3_takeParts_106 (by decide) rfl rfl ?_
                refine nv_iL dX3_takeParts_107 rfl ?_
                refine nv_aL dX3_takeParts_108 rfl ?_
                refine nv_gI lf_X3_21 dX3_takeParts_109 hk0 rfl ?_
                refine nv_iclt dX3_takeParts_112 (fun c16 => ?_) (fun c16 => ?_)
                · replace hf := nv_ip c16 hf
                  refine nv_aL dX3_takeParts_117 rfl ?_
                  refine nv_iL dX3_takeParts_118 rfl ?_
                  obtain ⟨q17, hq17, hf⟩ := nv_bd hf
                  refine nv_cVi (tw_signAt G h14 k0 hk0 v15 hq17) dX3_takeParts_119 lm_X3_44 y_qX3_signAt hk0 rfl rfl (by decide) rfl (Nat.le_of_ble_eq_true rfl) ?_
                  refine nv_k dX3_takeParts_122 ?_
                  refine nv_iceq dX3_takeParts_124 (fun c18 => ?_) (fun c18 => ?_)
                  · replace hf := nv_ip c18 hf
                    refine nv_inc dX3_takeParts_129 rfl (v := 1) (by decide) (by decide) rfl rfl ?_
                    refine nv_inc dX3_takeParts_132 rfl (v := 1) (by decide) (by decide) rfl rfl ?_
                    refine nv_goto dX3_takeParts_135 ?_
                    exact ih _ _ _ _ _ _ hf
                  · replace hf := nv_in c18 hf
                    refine nv_iL dX3_takeParts_127 rfl ?_
                    obtain rfl := Option.some.inj hf
                    exact nv_ireturnI dX3_takeParts_128 rfl
                · replace hf := nv_in c16 hf
                  refine nv_k dX3_takeParts_115 ?_
                  obtain rfl := Option.some.inj hf
                  exact nv_ireturnI dX3_takeParts_116 rfl
              · replace hf := nv_in c12 hf
                refine nv_iL dX3_takeParts_81 rfl ?_
                refine nv_k dX3_takeParts_82 ?_
                refine nv_iadd dX3_takeParts_83 ?_
                obtain rfl := Option.some.inj hf
                exact nv_ireturnI dX3_takeParts_84 rfl
          · replace hf := nv_in c7 hf
            refine nv_iL dX3_takeParts_46 rfl ?_
            refine nv_k dX3_takeParts_47 ?_
            refine nv_iadd dX3_takeParts_48 ?_
            obtain rfl := Option.some.inj hf
            exact nv_ireturnI dX3_takeParts_49 rfl
def fw_takeParts (h : nv_Hp) (k0 : Nat) : Option (Int32 × nv_Hp) := (fw_takeParts_4 k0 nv_fu 0 0 h)
set_option maxHeartbeats 2000000 in
theorem tw_takeParts (G : nv_G) (h : nv_Hp) (k0 : Nat) (hk0 : nv_O 3 k0) {r : Int32 × nv_Hp} (hf : (fw_takeParts h k0) = some r) : nv_Mt G 3 qX3_takeParts [.ref k0] (nv_s h) (some (.int r.1), nv_s r.2) := by
  refine nv_of (by decide +kernel) (fun ad => Nat.le_of_ble_eq_true rfl) (Nat.le_refl _) (Nat.le_of_ble_eq_true rfl) ?_
  show nv_E G 3 qX3_takeParts 0 [some (.ref k0), none, none, none, none] [] (nv_s h) (some (.int r.1), nv_s r.2)
  unfold fw_takeParts at hf
  refine nv_k dX3_takeParts_0 ?_
  refine nv_iS dX3_takeParts_1 (by decide) rfl rfl ?_
  refine nv_k dX3_takeParts_2 ?_
  refine nv_iS dX3_takeParts_3 (by decide) rfl rfl ?_
  exact tw_takeParts_4 G _ hk0 _ _ _ _ _ _ _ hf
/-! WhoseName$Law.understand -/
theorem dX3_understand_0 : nv_daload qX3_understand 0 0 1 := Or.inr ⟨0, rfl, by decide +kernel, rfl⟩
theorem dX3_understand_1 : nv_dc qX3_understand 1 (.invokevirtual 25) 3 4 := ⟨by decide +kernel, rfl⟩
theorem dX3_understand_4 : nv_daload qX3_understand 4 0 5 := Or.inr ⟨0, rfl, by decide +kernel, rfl⟩
theorem dX3_understand_5 : nv_daload qX3_understand 5 0 6 := Or.inr ⟨0, rfl, by decide +kernel, rfl⟩
theorem dX3_understand_6 : nv_dc qX3_understand 6 (.getfield 21) 3 9 := ⟨by decide +kernel, rfl⟩
theorem dX3_understand_9 : nv_dif qX3_understand 9 .ne 16 12 := ⟨7, by decide +kernel, by decide, rfl⟩
theorem dX3_understand_12 : nv_dk qX3_understand 12 (-1) 13 := Or.inl ⟨(-1), ⟨by decide +kernel, rfl⟩, by decide⟩
theorem dX3_understand_13 : nv_dgo qX3_understand 13 20 := ⟨7, by decide +kernel, by decide⟩
theorem dX3_understand_16 : nv_daload qX3_understand 16 0 17 := Or.inr ⟨0, rfl, by decide +kernel, rfl⟩
theorem dX3_understand_17 : nv_dc qX3_understand 17 (.invokevirtual 28) 3 20 := ⟨by decide +kernel, rfl⟩
theorem dX3_understand_20 : nv_dc qX3_understand 20 (.putfield 32) 3 23 := ⟨by decide +kernel, rfl⟩
theorem dX3_understand_23 : nv_daload qX3_understand 23 0 24 := Or.inr ⟨0, rfl, by decide +kernel, rfl⟩
theorem dX3_understand_24 : nv_dc qX3_understand 24 (.getfield 32) 3 27 := ⟨by decide +kernel, rfl⟩
theorem dX3_understand_27 : nv_dk qX3_understand 27 (-1) 28 := Or.inl ⟨(-1), ⟨by decide +kernel, rfl⟩, by decide⟩
theorem dX3_understand_28 : nv_dic qX3_understand 28 .eq 35 31 := ⟨7, by decide +kernel, by decide, rfl⟩
theorem dX3_understand_31 : nv_daload qX3_understand 31 0 32 := Or.inr ⟨0, rfl, by decide +kernel, rfl⟩
theorem dX3_understand_32 : nv_dc qX3_understand 32 (.invokevirtual 25) 3 35 := ⟨by decide +kernel, rfl⟩
theorem dX3_understand_35 : decode qX3_understand.2.1 35 = .ok (.return_, 1) := by decide +kernel
def fw_understand_20 (h : nv_Hp) (k0 : Nat) (sk0 : Nat) (s1 : Int32)  : Option (nv_Hp) := (nv_lt (nv_up h sk0 3 s1) fun h1 => (if (h1 k0 3) = (-1) then some h1 else (nv_lt (fw_forgetParts h1 k0) fun q3 => some q3)))
set_option maxHeartbeats 2000000 in
theorem tw_understand_20 (G : nv_G) (h : nv_Hp) (k0 : Nat) (hk0 : nv_O 3 k0) (sk0 : Nat) (hsk0 : nv_O 3 sk0) (s1 : Int32)  (r : nv_Hp) (hf : fw_understand_20 h k0 sk0 s1 = some r) : nv_E G 4 qX3_understand 20 [some (.ref k0)] [.int s1, .ref sk0] (nv_s h) (none, nv_s r) := by
  unfold fw_understand_20 at hf
  refine nv_pI lp_X3_32 dX3_understand_20 hsk0 rfl ?_
  obtain ⟨h1, eh1, hf⟩ := nv_ltX hf
  rw [eh1]
  clear eh1
  refine nv_aL dX3_understand_23 rfl ?_
  refine nv_gI lf_X3_32 dX3_understand_24 hk0 rfl ?_
  refine nv_k dX3_understand_27 ?_
  refine nv_iceq dX3_understand_28 (fun c2 => ?_) (fun c2 => ?_)
  · replace hf := nv_ip c2 hf
    obtain rfl := Option.some.inj hf
    exact nv_return dX3_understand_35 rfl
  · replace hf := nv_in c2 hf
    refine nv_aL dX3_understand_31 rfl ?_
    refine nv_cVv (tw_forgetParts G h1 k0 hk0) dX3_understand_32 lm_X3_25 y_qX3_forgetParts hk0 rfl rfl (by decide) rfl (Nat.le_of_ble_eq_true rfl) ?_
    obtain ⟨q3, eq3, hf⟩ := nv_ltX hf
    rw [eq3]
    clear eq3
    obtain rfl := Option.some.inj hf
    exact nv_return dX3_understand_35 rfl
def fw_understand (h : nv_Hp) (k0 : Nat) : Option (nv_Hp) := (nv_lt (fw_forgetParts h k0) fun q1 => (Option.bind ((if (q1 k0 2) = 0 then some ((-1), q1) else (Option.bind (fw_takeParts q1 k0) fun q2 => some (q2.1, q2.2))) : Option (Int32 × nv_Hp)) fun u3 => fw_understand_20 u3.2 k0 k0 u3.1))
set_option maxHeartbeats 2000000 in
theorem tw_understand (G : nv_G) (h : nv_Hp) (k0 : Nat) (hk0 : nv_O 3 k0) {r : nv_Hp} (hf : (fw_understand h k0) = some r) : nv_Mt G 4 qX3_understand [.ref k0] (nv_s h) (none, nv_s r) := by
  refine nv_of (by decide +kernel) (fun ad => Nat.le_of_ble_eq_true rfl) (Nat.le_refl _) (Nat.le_of_ble_eq_true rfl) ?_
  show nv_E G 4 qX3_understand 0 [some (.ref k0)] [] (nv_s h) (none, nv_s r)
  unfold fw_understand at hf
  refine nv_aL dX3_understand_0 rfl ?_
  refine nv_cVv (tw_forgetParts G h k0 hk0) dX3_understand_1 lm_X3_25 y_qX3_forgetParts hk0 rfl rfl (by decide) rfl (Nat.le_of_ble_eq_true rfl) ?_
  obtain ⟨q1, eq1, hf⟩ := nv_ltX hf
  rw [eq1]
  clear eq1
  refine nv_aL dX3_understand_4 rfl ?_
  refine nv_aL dX3_understand_5 rfl ?_
  refine nv_gI lf_X3_21 dX3_understand_6 hk0 rfl ?_
  refine nv_ifne dX3_understand_9 (fun c4 => ?_) (fun c4 => ?_)
  · try simp only [if_pos c4, Option.bind_some] at hf
    refine nv_k dX3_understand_12 ?_
    refine nv_goto dX3_understand_13 ?_
    exact tw_understand_20 G _ _ hk0 _ hk0 _ _ hf
  · try simp only [if_neg c4, Option.bind_some] at hf
    refine nv_aL dX3_understand_16 rfl ?_
    obtain ⟨q5, hq5⟩ : ∃ q, fw_takeParts q1 k0 = some q := by
      cases hq5 : fw_takeParts q1 k0 with
      | none => exfalso; simp [hq5] at hf
      | some q => exact ⟨q, rfl⟩
    simp only [hq5, Option.bind_some] at hf
    refine nv_cVi (tw_takeParts G q1 k0 hk0 hq5) dX3_understand_17 lm_X3_28 y_qX3_takeParts hk0 rfl rfl (by decide) rfl (Nat.le_of_ble_eq_true rfl) ?_
    exact tw_understand_20 G _ _ hk0 _ hk0 _ _ hf
/-! WhoseName$Law.append -/
theorem dX3_append_0 : nv_daload qX3_append 0 0 1 := Or.inr ⟨0, rfl, by decide +kernel, rfl⟩
theorem dX3_append_1 : nv_dc qX3_append 1 (.getfield 21) 3 4 := ⟨by decide +kernel, rfl⟩
theorem dX3_append_4 : nv_dk qX3_append 4 60 6 := Or.inr (Or.inl ⟨60, ⟨by decide +kernel, rfl⟩, by decide⟩)
theorem dX3_append_6 : nv_dic qX3_append 6 .ge 33 9 := ⟨27, by decide +kernel, by decide, rfl⟩
theorem dX3_append_9 : nv_daload qX3_append 9 0 10 := Or.inr ⟨0, rfl, by decide +kernel, rfl⟩
theorem dX3_append_10 : nv_dc qX3_append 10 (.getfield 9) 3 13 := ⟨by decide +kernel, rfl⟩
theorem dX3_append_13 : nv_daload qX3_append 13 0 14 := Or.inr ⟨0, rfl, by decide +kernel, rfl⟩
theorem dX3_append_14 : nv_dc qX3_append 14 (.getfield 21) 3 17 := ⟨by decide +kernel, rfl⟩
theorem dX3_append_17 : nv_diload qX3_append 17 1 18 := Or.inr ⟨1, rfl, by decide +kernel, rfl⟩
theorem dX3_append_18 : nv_dc qX3_append 18 (.iastore) 1 19 := ⟨by decide +kernel, rfl⟩
theorem dX3_append_19 : nv_daload qX3_append 19 0 20 := Or.inr ⟨0, rfl, by decide +kernel, rfl⟩
theorem dX3_append_20 : nv_dc qX3_append 20 (.dup) 1 21 := ⟨by decide +kernel, rfl⟩
theorem dX3_append_21 : nv_dc qX3_append 21 (.getfield 21) 3 24 := ⟨by decide +kernel, rfl⟩
theorem dX3_append_24 : nv_dk qX3_append 24 1 25 := Or.inl ⟨1, ⟨by decide +kernel, rfl⟩, by decide⟩
theorem dX3_append_25 : nv_dc qX3_append 25 (.iadd) 1 26 := ⟨by decide +kernel, rfl⟩
theorem dX3_append_26 : nv_dc qX3_append 26 (.putfield 21) 3 29 := ⟨by decide +kernel, rfl⟩
theorem dX3_append_29 : nv_daload qX3_append 29 0 30 := Or.inr ⟨0, rfl, by decide +kernel, rfl⟩
theorem dX3_append_30 : nv_dc qX3_append 30 (.invokevirtual 18) 3 33 := ⟨by decide +kernel, rfl⟩
theorem dX3_append_33 : decode qX3_append.2.1 33 = .ok (.return_, 1) := by decide +kernel
def fw_append (h : nv_Hp) (k0 : Nat) (x1 : Int32) : Option (nv_Hp) := (if 60 ≤ (h k0 2) then some h else (if nv_inb (h k0 2) 60 = true then (nv_lt (nv_up h (k0 + 1) (h k0 2).toNatClampNeg x1) fun h3 => (nv_lt (nv_up h3 k0 2 ((h3 k0 2) + 1)) fun h4 => (Option.bind (fw_understand h4 k0) fun q5 => some q5))) else none))
set_option maxHeartbeats 2000000 in
theorem tw_append (G : nv_G) (h : nv_Hp) (k0 : Nat) (hk0 : nv_O 3 k0) (x1 : Int32) {r : nv_Hp} (hf : (fw_append h k0 x1) = some r) : nv_Mt G 5 qX3_append [.ref k0, .int x1] (nv_s h) (none, nv_s r) := by
  refine nv_of (by decide +kernel) (fun ad => Nat.le_of_ble_eq_true rfl) (Nat.le_refl _) (Nat.le_of_ble_eq_true rfl) ?_
  show nv_E G 5 qX3_append 0 [some (.ref k0), some (.int x1)] [] (nv_s h) (none, nv_s r)
  unfold fw_append at hf
  refine nv_aL dX3_append_0 rfl ?_
  refine nv_gI lf_X3_21 dX3_append_1 hk0 rfl ?_
  refine nv_k dX3_append_4 ?_
  refine nv_icge dX3_append_6 (fun c1 => ?_) (fun c1 => ?_)
  · replace hf := nv_ip c1 hf
    obtain rfl := Option.some.inj hf
    exact nv_return dX3_append_33 rfl
  · replace hf := nv_in c1 hf
    refine nv_aL dX3_append_9 rfl ?_
    refine nv_gR (t := (k0 + 1)) lf_X3_9 dX3_append_10 hk0 rfl ?_
    refine nv_aL dX3_append_13 rfl ?_
    refine nv_gI lf_X3_21 dX3_append_14 hk0 rfl ?_
    refine nv_iL dX3_append_17 rfl ?_
    obtain ⟨g2, hf⟩ := nv_gd hf
    refine nv_aP dX3_append_18 (nv_o3b hk0) g2 rfl ?_
    obtain ⟨h3, eh3, hf⟩ := nv_ltX hf
    rw [eh3]
    clear eh3
    refine nv_aL dX3_append_19 rfl ?_
    refine nv_dup dX3_append_20 rfl ?_
    refine nv_gI lf_X3_21 dX3_append_21 hk0 rfl ?_
    refine nv_k dX3_append_24 ?_
    refine nv_iadd dX3_append_25 ?_
    refine nv_pI lp_X3_21 dX3_append_26 hk0 rfl ?_
    obtain ⟨h4, eh4, hf⟩ := nv_ltX hf
    rw [eh4]
    clear eh4
    refine nv_aL dX3_append_29 rfl ?_
    obtain ⟨q5, hq5, hf⟩ := nv_bd hf
    refine nv_cVv (tw_understand G h4 k0 hk0 hq5) dX3_append_30 lm_X3_18 y_qX3_understand hk0 rfl rfl (by decide) rfl (Nat.le_of_ble_eq_true rfl) ?_
    obtain rfl := Option.some.inj hf
    exact nv_return dX3_append_33 rfl
/-! WhoseName$Law.clear -/
theorem dX3_clear_0 : nv_daload qX3_clear 0 0 1 := Or.inr ⟨0, rfl, by decide +kernel, rfl⟩
theorem dX3_clear_1 : nv_dk qX3_clear 1 0 2 := Or.inl ⟨0, ⟨by decide +kernel, rfl⟩, by decide⟩
theorem dX3_clear_2 : nv_dc qX3_clear 2 (.putfield 21) 3 5 := ⟨by decide +kernel, rfl⟩
theorem dX3_clear_5 : nv_daload qX3_clear 5 0 6 := Or.inr ⟨0, rfl, by decide +kernel, rfl⟩
theorem dX3_clear_6 : nv_dc qX3_clear 6 (.invokevirtual 18) 3 9 := ⟨by decide +kernel, rfl⟩
theorem dX3_clear_9 : decode qX3_clear.2.1 9 = .ok (.return_, 1) := by decide +kernel
def fw_clear (h : nv_Hp) (k0 : Nat) : Option (nv_Hp) := (nv_lt (nv_up h k0 2 0) fun h1 => (Option.bind (fw_understand h1 k0) fun q2 => some q2))
set_option maxHeartbeats 2000000 in
theorem tw_clear (G : nv_G) (h : nv_Hp) (k0 : Nat) (hk0 : nv_O 3 k0) {r : nv_Hp} (hf : (fw_clear h k0) = some r) : nv_Mt G 5 qX3_clear [.ref k0] (nv_s h) (none, nv_s r) := by
  refine nv_of (by decide +kernel) (fun ad => Nat.le_of_ble_eq_true rfl) (Nat.le_refl _) (Nat.le_of_ble_eq_true rfl) ?_
  show nv_E G 5 qX3_clear 0 [some (.ref k0)] [] (nv_s h) (none, nv_s r)
  unfold fw_clear at hf
  refine nv_aL dX3_clear_0 rfl ?_
  refine nv_k dX3_clear_1 ?_
  refine nv_pI lp_X3_21 dX3_clear_2 hk0 rfl ?_
  obtain ⟨h1, eh1, hf⟩ := nv_ltX hf
  rw [eh1]
  clear eh1
  refine nv_aL dX3_clear_5 rfl ?_
  obtain ⟨q2, hq2, hf⟩ := nv_bd hf
  refine nv_cVv (tw_understand G h1 k0 hk0 hq2) dX3_clear_6 lm_X3_18 y_qX3_understand hk0 rfl rfl (by decide) rfl (Nat.le_of_ble_eq_true rfl) ?_
  obtain rfl := Option.some.inj hf
  exact nv_return dX3_clear_9 rfl
/-! WhoseName$Sheet.renew -/
theorem dX5_renew_0 : nv_daload qX5_renew 0 0 1 := Or.inr ⟨0, rfl, by decide +kernel, rfl⟩
theorem dX5_renew_1 : nv_dk qX5_renew 1 0 2 := Or.inl ⟨0, ⟨by decide +kernel, rfl⟩, by decide⟩
theorem dX5_renew_2 : nv_dc qX5_renew 2 (.putfield 15) 3 5 := ⟨by decide +kernel, rfl⟩
theorem dX5_renew_5 : nv_daload qX5_renew 5 0 6 := Or.inr ⟨0, rfl, by decide +kernel, rfl⟩
theorem dX5_renew_6 : nv_diload qX5_renew 6 1 7 := Or.inr ⟨1, rfl, by decide +kernel, rfl⟩
theorem dX5_renew_7 : nv_dc qX5_renew 7 (.putfield 19) 3 10 := ⟨by decide +kernel, rfl⟩
theorem dX5_renew_10 : nv_daload qX5_renew 10 0 11 := Or.inr ⟨0, rfl, by decide +kernel, rfl⟩
theorem dX5_renew_11 : nv_diload qX5_renew 11 2 12 := Or.inr ⟨2, rfl, by decide +kernel, rfl⟩
theorem dX5_renew_12 : nv_dc qX5_renew 12 (.putfield 23) 3 15 := ⟨by decide +kernel, rfl⟩
theorem dX5_renew_15 : nv_dk qX5_renew 15 0 16 := Or.inl ⟨0, ⟨by decide +kernel, rfl⟩, by decide⟩
theorem dX5_renew_16 : nv_distore qX5_renew 16 3 17 := Or.inr ⟨3, rfl, by decide +kernel, rfl⟩
theorem dX5_renew_17 : nv_diload qX5_renew 17 3 18 := Or.inr ⟨3, rfl, by decide +kernel, rfl⟩
theorem dX5_renew_18 : nv_dk qX5_renew 18 60 20 := Or.inr (Or.inl ⟨60, ⟨by decide +kernel, rfl⟩, by decide⟩)
theorem dX5_renew_20 : nv_dic qX5_renew 20 .ge 36 23 := ⟨16, by decide +kernel, by decide, rfl⟩
theorem dX5_renew_23 : nv_daload qX5_renew 23 0 24 := Or.inr ⟨0, rfl, by decide +kernel, rfl⟩
theorem dX5_renew_24 : nv_dc qX5_renew 24 (.getfield 9) 3 27 := ⟨by decide +kernel, rfl⟩
theorem dX5_renew_27 : nv_diload qX5_renew 27 3 28 := Or.inr ⟨3, rfl, by decide +kernel, rfl⟩
theorem dX5_renew_28 : nv_dk qX5_renew 28 0 29 := Or.inl ⟨0, ⟨by decide +kernel, rfl⟩, by decide⟩
theorem dX5_renew_29 : nv_dc qX5_renew 29 (.iastore) 1 30 := ⟨by decide +kernel, rfl⟩
theorem dX5_renew_30 : nv_dc qX5_renew 30 (.iinc 3 1) 3 33 := ⟨by decide +kernel, rfl⟩
theorem dX5_renew_33 : nv_dgo qX5_renew 33 17 := ⟨(-16), by decide +kernel, by decide⟩
theorem dX5_renew_36 : decode qX5_renew.2.1 36 = .ok (.return_, 1) := by decide +kernel
def fs_renew_17  (k0 : Nat)  : Nat → Int32 → nv_Hp → Option (nv_Hp)
  | 0, _, _ => none
  | n + 1, x3, h => (if 60 ≤ x3 then some h else (if nv_inb x3 60 = true then (nv_lt (nv_up h (k0 + 1) x3.toNatClampNeg 0) fun h3 => ((fs_renew_17 k0 n) (x3 + 1) h3)) else none))
set_option maxHeartbeats 2000000 in
theorem ts_renew_17 (G : nv_G)  (k0 : Nat) (hk0 : nv_O 5 k0)  : ∀ (n : Nat) (x3 : Int32) (h : nv_Hp) (o1 o2 : Option Value) (r : nv_Hp), fs_renew_17 k0 n x3 h = some r → nv_E G 0 qX5_renew 17 [some (.ref k0), o1, o2, some (.int x3)] [] (nv_s h) (none, nv_s r) := by
  intro n
  induction n with
  | zero =>
    intro x3 h o1 o2 r hf
    rw [fs_renew_17] at hf
    cases hf
  | succ n ih =>
    intro x3 h o1 o2 r hf
    rw [fs_renew_17] at hf
    refine nv_iL dX5_renew_17 rfl ?_
    refine nv_k dX5_renew_18 ?_
    refine nv_icge dX5_renew_20 (fun c1 => ?_) (fun c1 => ?_)
    · replace hf := nv_ip c1 hf
      obtain rfl := Option.some.inj hf
      exact nv_return dX5_renew_36 rfl
    · replace hf := nv_in c1 hf
      refine nv_aL dX5_renew_23 rfl ?_
      refine nv_gR (t := (k0 + 1)) lf_X5_9 dX5_renew_24 hk0 rfl ?_
      refine nv_iL dX5_renew_27 rfl ?_
      refine nv_k dX5_renew_28 ?_
      obtain ⟨g2, hf⟩ := nv_gd hf
      refine nv_aP dX5_renew_29 (nv_o5i hk0) g2 rfl ?_
      obtain ⟨h3, eh3, hf⟩ := nv_ltX hf
      rw [eh3]
      clear eh3
      refine nv_wk 2 rfl ?_
      refine nv_inc dX5_renew_30 rfl (v := 1) (by decide) (by decide) rfl rfl ?_
      refine nv_goto dX5_renew_33 ?_
      exact ih _ _ _ _ _ hf
def fs_renew (h : nv_Hp) (k0 : Nat) (x1 : Int32) (x2 : Int32) : Option (nv_Hp) := (nv_lt (nv_up h k0 1 0) fun h1 => (nv_lt (nv_up h1 k0 2 x1) fun h2 => (nv_lt (nv_up h2 k0 3 x2) fun h3 => (fs_renew_17 k0 nv_fu 0 h3))))
set_option maxHeartbeats 2000000 in
theorem ts_renew (G : nv_G) (h : nv_Hp) (k0 : Nat) (hk0 : nv_O 5 k0) (x1 : Int32) (x2 : Int32) {r : nv_Hp} (hf : (fs_renew h k0 x1 x2) = some r) : nv_Mt G 0 qX5_renew [.ref k0, .int x1, .int x2] (nv_s h) (none, nv_s r) := by
  refine nv_of (by decide +kernel) (fun ad => Nat.le_of_ble_eq_true rfl) (Nat.le_refl _) (Nat.le_of_ble_eq_true rfl) ?_
  show nv_E G 0 qX5_renew 0 [some (.ref k0), some (.int x1), some (.int x2), none] [] (nv_s h) (none, nv_s r)
  unfold fs_renew at hf
  refine nv_aL dX5_renew_0 rfl ?_
  refine nv_k dX5_renew_1 ?_
  refine nv_pB lp_X5_15 dX5_renew_2 hk0 rfl rfl rfl ?_
  obtain ⟨h1, eh1, hf⟩ := nv_ltX hf
  rw [eh1]
  clear eh1
  refine nv_aL dX5_renew_5 rfl ?_
  refine nv_iL dX5_renew_6 rfl ?_
  refine nv_pI lp_X5_19 dX5_renew_7 hk0 rfl ?_
  obtain ⟨h2, eh2, hf⟩ := nv_ltX hf
  rw [eh2]
  clear eh2
  refine nv_aL dX5_renew_10 rfl ?_
  refine nv_iL dX5_renew_11 rfl ?_
  refine nv_pI lp_X5_23 dX5_renew_12 hk0 rfl ?_
  obtain ⟨h3, eh3, hf⟩ := nv_ltX hf
  rw [eh3]
  clear eh3
  refine nv_k dX5_renew_15 ?_
  refine nv_iS dX5_renew_16 (by decide) rfl rfl ?_
  exact ts_renew_17 G _ hk0 _ _ _ _ _ _ hf
/-! WhoseName$Sheet.has -/
theorem dX5_has_0 : nv_diload qX5_has 0 1 1 := Or.inr ⟨1, rfl, by decide +kernel, rfl⟩
theorem dX5_has_1 : nv_dif qX5_has 1 .lt 22 4 := ⟨21, by decide +kernel, by decide, rfl⟩
theorem dX5_has_4 : nv_diload qX5_has 4 1 5 := Or.inr ⟨1, rfl, by decide +kernel, rfl⟩
theorem dX5_has_5 : nv_daload qX5_has 5 0 6 := Or.inr ⟨0, rfl, by decide +kernel, rfl⟩
theorem dX5_has_6 : nv_dc qX5_has 6 (.getfield 23) 3 9 := ⟨by decide +kernel, rfl⟩
theorem dX5_has_9 : nv_dic qX5_has 9 .ge 22 12 := ⟨13, by decide +kernel, by decide, rfl⟩
theorem dX5_has_12 : nv_diload qX5_has 12 1 13 := Or.inr ⟨1, rfl, by decide +kernel, rfl⟩
theorem dX5_has_13 : nv_dk qX5_has 13 60 15 := Or.inr (Or.inl ⟨60, ⟨by decide +kernel, rfl⟩, by decide⟩)
theorem dX5_has_15 : nv_dic qX5_has 15 .ge 22 18 := ⟨7, by decide +kernel, by decide, rfl⟩
theorem dX5_has_18 : nv_dk qX5_has 18 1 19 := Or.inl ⟨1, ⟨by decide +kernel, rfl⟩, by decide⟩
theorem dX5_has_19 : nv_dgo qX5_has 19 23 := ⟨4, by decide +kernel, by decide⟩
theorem dX5_has_22 : nv_dk qX5_has 22 0 23 := Or.inl ⟨0, ⟨by decide +kernel, rfl⟩, by decide⟩
theorem dX5_has_23 : decode qX5_has.2.1 23 = .ok (.ireturn, 1) := by decide +kernel
def fs_has (h : nv_Hp) (k0 : Nat) (x1 : Int32) : Bool := (if x1 < 0 then false else (if (h k0 3) ≤ x1 then false else (if 60 ≤ x1 then false else true)))
set_option maxHeartbeats 2000000 in
theorem ts_has (G : nv_G) (h : nv_Hp) (k0 : Nat) (hk0 : nv_O 5 k0) (x1 : Int32) : nv_Mt G 0 qX5_has [.ref k0, .int x1] (nv_s h) (some (.int (nv_bi (fs_has h k0 x1))), nv_s h) := by
  refine nv_of (by decide +kernel) (fun ad => Nat.le_of_ble_eq_true rfl) (Nat.le_refl _) (Nat.le_of_ble_eq_true rfl) ?_
  show nv_E G 0 qX5_has 0 [some (.ref k0), some (.int x1)] [] (nv_s h) (some (.int (nv_bi (fs_has h k0 x1))), nv_s h)
  generalize hf : (fs_has h k0 x1) = r
  unfold fs_has at hf
  refine nv_iL dX5_has_0 rfl ?_
  refine nv_iflt dX5_has_1 (fun c1 => ?_) (fun c1 => ?_)
  · replace hf := nv_ip c1 hf
    refine nv_k dX5_has_22 ?_
    subst hf
    exact nv_ireturnB (b := false) dX5_has_23 rfl
  · replace hf := nv_in c1 hf
    refine nv_iL dX5_has_4 rfl ?_
    refine nv_aL dX5_has_5 rfl ?_
    refine nv_gI lf_X5_23 dX5_has_6 hk0 rfl ?_
    refine nv_icge dX5_has_9 (fun c2 => ?_) (fun c2 => ?_)
    · replace hf := nv_ip c2 hf
      refine nv_k dX5_has_22 ?_
      subst hf
      exact nv_ireturnB (b := false) dX5_has_23 rfl
    · replace hf := nv_in c2 hf
      refine nv_iL dX5_has_12 rfl ?_
      refine nv_k dX5_has_13 ?_
      refine nv_icge dX5_has_15 (fun c3 => ?_) (fun c3 => ?_)
      · replace hf := nv_ip c3 hf
        refine nv_k dX5_has_22 ?_
        subst hf
        exact nv_ireturnB (b := false) dX5_has_23 rfl
      · replace hf := nv_in c3 hf
        refine nv_k dX5_has_18 ?_
        refine nv_goto dX5_has_19 ?_
        subst hf
        exact nv_ireturnB (b := true) dX5_has_23 rfl
/-! WhoseName$Sheet.hasRow -/
theorem dX5_hasRow_0 : nv_diload qX5_hasRow 0 1 1 := Or.inr ⟨1, rfl, by decide +kernel, rfl⟩
theorem dX5_hasRow_1 : nv_dif qX5_hasRow 1 .lt 30 4 := ⟨29, by decide +kernel, by decide, rfl⟩
theorem dX5_hasRow_4 : nv_diload qX5_hasRow 4 2 5 := Or.inr ⟨2, rfl, by decide +kernel, rfl⟩
theorem dX5_hasRow_5 : nv_dif qX5_hasRow 5 .lt 30 8 := ⟨25, by decide +kernel, by decide, rfl⟩
theorem dX5_hasRow_8 : nv_diload qX5_hasRow 8 1 9 := Or.inr ⟨1, rfl, by decide +kernel, rfl⟩
theorem dX5_hasRow_9 : nv_daload qX5_hasRow 9 0 10 := Or.inr ⟨0, rfl, by decide +kernel, rfl⟩
theorem dX5_hasRow_10 : nv_dc qX5_hasRow 10 (.getfield 23) 3 13 := ⟨by decide +kernel, rfl⟩
theorem dX5_hasRow_13 : nv_dic qX5_hasRow 13 .gt 30 16 := ⟨17, by decide +kernel, by decide, rfl⟩
theorem dX5_hasRow_16 : nv_diload qX5_hasRow 16 2 17 := Or.inr ⟨2, rfl, by decide +kernel, rfl⟩
theorem dX5_hasRow_17 : nv_daload qX5_hasRow 17 0 18 := Or.inr ⟨0, rfl, by decide +kernel, rfl⟩
theorem dX5_hasRow_18 : nv_dc qX5_hasRow 18 (.getfield 23) 3 21 := ⟨by decide +kernel, rfl⟩
theorem dX5_hasRow_21 : nv_diload qX5_hasRow 21 1 22 := Or.inr ⟨1, rfl, by decide +kernel, rfl⟩
theorem dX5_hasRow_22 : nv_dc qX5_hasRow 22 (.isub) 1 23 := ⟨by decide +kernel, rfl⟩
theorem dX5_hasRow_23 : nv_dic qX5_hasRow 23 .gt 30 26 := ⟨7, by decide +kernel, by decide, rfl⟩
theorem dX5_hasRow_26 : nv_dk qX5_hasRow 26 1 27 := Or.inl ⟨1, ⟨by decide +kernel, rfl⟩, by decide⟩
theorem dX5_hasRow_27 : nv_dgo qX5_hasRow 27 31 := ⟨4, by decide +kernel, by decide⟩
theorem dX5_hasRow_30 : nv_dk qX5_hasRow 30 0 31 := Or.inl ⟨0, ⟨by decide +kernel, rfl⟩, by decide⟩
theorem dX5_hasRow_31 : decode qX5_hasRow.2.1 31 = .ok (.ireturn, 1) := by decide +kernel
def fs_hasRow (h : nv_Hp) (k0 : Nat) (x1 : Int32) (x2 : Int32) : Bool := (if x1 < 0 then false else (if x2 < 0 then false else (if (h k0 3) < x1 then false else (if ((h k0 3) - x1) < x2 then false else true))))
set_option maxHeartbeats 2000000 in
theorem ts_hasRow (G : nv_G) (h : nv_Hp) (k0 : Nat) (hk0 : nv_O 5 k0) (x1 : Int32) (x2 : Int32) : nv_Mt G 0 qX5_hasRow [.ref k0, .int x1, .int x2] (nv_s h) (some (.int (nv_bi (fs_hasRow h k0 x1 x2))), nv_s h) := by
  refine nv_of (by decide +kernel) (fun ad => Nat.le_of_ble_eq_true rfl) (Nat.le_refl _) (Nat.le_of_ble_eq_true rfl) ?_
  show nv_E G 0 qX5_hasRow 0 [some (.ref k0), some (.int x1), some (.int x2)] [] (nv_s h) (some (.int (nv_bi (fs_hasRow h k0 x1 x2))), nv_s h)
  generalize hf : (fs_hasRow h k0 x1 x2) = r
  unfold fs_hasRow at hf
  refine nv_iL dX5_hasRow_0 rfl ?_
  refine nv_iflt dX5_hasRow_1 (fun c1 => ?_) (fun c1 => ?_)
  · replace hf := nv_ip c1 hf
    refine nv_k dX5_hasRow_30 ?_
    subst hf
    exact nv_ireturnB (b := false) dX5_hasRow_31 rfl
  · replace hf := nv_in c1 hf
    refine nv_iL dX5_hasRow_4 rfl ?_
    refine nv_iflt dX5_hasRow_5 (fun c2 => ?_) (fun c2 => ?_)
    · replace hf := nv_ip c2 hf
      refine nv_k dX5_hasRow_30 ?_
      subst hf
      exact nv_ireturnB (b := false) dX5_hasRow_31 rfl
    · replace hf := nv_in c2 hf
      refine nv_iL dX5_hasRow_8 rfl ?_
      refine nv_aL dX5_hasRow_9 rfl ?_
      refine nv_gI lf_X5_23 dX5_hasRow_10 hk0 rfl ?_
      refine nv_icgt dX5_hasRow_13 (fun c3 => ?_) (fun c3 => ?_)
      · replace hf := nv_ip c3 hf
        refine nv_k dX5_hasRow_30 ?_
        subst hf
        exact nv_ireturnB (b := false) dX5_hasRow_31 rfl
      · replace hf := nv_in c3 hf
        refine nv_iL dX5_hasRow_16 rfl ?_
        refine nv_aL dX5_hasRow_17 rfl ?_
        refine nv_gI lf_X5_23 dX5_hasRow_18 hk0 rfl ?_
        refine nv_iL dX5_hasRow_21 rfl ?_
        refine nv_isub dX5_hasRow_22 ?_
        refine nv_icgt dX5_hasRow_23 (fun c4 => ?_) (fun c4 => ?_)
        · replace hf := nv_ip c4 hf
          refine nv_k dX5_hasRow_30 ?_
          subst hf
          exact nv_ireturnB (b := false) dX5_hasRow_31 rfl
        · replace hf := nv_in c4 hf
          refine nv_k dX5_hasRow_26 ?_
          refine nv_goto dX5_hasRow_27 ?_
          subst hf
          exact nv_ireturnB (b := true) dX5_hasRow_31 rfl
/-! WhoseName$Sheet.itemAt -/
theorem dX5_itemAt_0 : nv_daload qX5_itemAt 0 0 1 := Or.inr ⟨0, rfl, by decide +kernel, rfl⟩
theorem dX5_itemAt_1 : nv_diload qX5_itemAt 1 1 2 := Or.inr ⟨1, rfl, by decide +kernel, rfl⟩
theorem dX5_itemAt_2 : nv_dc qX5_itemAt 2 (.invokevirtual 26) 3 5 := ⟨by decide +kernel, rfl⟩
theorem dX5_itemAt_5 : nv_dif qX5_itemAt 5 .eq 17 8 := ⟨12, by decide +kernel, by decide, rfl⟩
theorem dX5_itemAt_8 : nv_daload qX5_itemAt 8 0 9 := Or.inr ⟨0, rfl, by decide +kernel, rfl⟩
theorem dX5_itemAt_9 : nv_dc qX5_itemAt 9 (.getfield 9) 3 12 := ⟨by decide +kernel, rfl⟩
theorem dX5_itemAt_12 : nv_diload qX5_itemAt 12 1 13 := Or.inr ⟨1, rfl, by decide +kernel, rfl⟩
theorem dX5_itemAt_13 : nv_dc qX5_itemAt 13 (.iaload) 1 14 := ⟨by decide +kernel, rfl⟩
theorem dX5_itemAt_14 : nv_dgo qX5_itemAt 14 18 := ⟨4, by decide +kernel, by decide⟩
theorem dX5_itemAt_17 : nv_dk qX5_itemAt 17 0 18 := Or.inl ⟨0, ⟨by decide +kernel, rfl⟩, by decide⟩
theorem dX5_itemAt_18 : decode qX5_itemAt.2.1 18 = .ok (.ireturn, 1) := by decide +kernel
def fs_itemAt (h : nv_Hp) (k0 : Nat) (x1 : Int32) : Option (Int32) := (if (fs_has h k0 x1) = true then (if nv_inb x1 60 = true then some (h (k0 + 1) x1.toNatClampNeg) else none) else some 0)
set_option maxHeartbeats 2000000 in
theorem ts_itemAt (G : nv_G) (h : nv_Hp) (k0 : Nat) (hk0 : nv_O 5 k0) (x1 : Int32) {r : Int32} (hf : (fs_itemAt h k0 x1) = some r) : nv_Mt G 1 qX5_itemAt [.ref k0, .int x1] (nv_s h) (some (.int r), nv_s h) := by
  refine nv_of (by decide +kernel) (fun ad => Nat.le_of_ble_eq_true rfl) (Nat.le_refl _) (Nat.le_of_ble_eq_true rfl) ?_
  show nv_E G 1 qX5_itemAt 0 [some (.ref k0), some (.int x1)] [] (nv_s h) (some (.int r), nv_s h)
  unfold fs_itemAt at hf
  refine nv_aL dX5_itemAt_0 rfl ?_
  refine nv_iL dX5_itemAt_1 rfl ?_
  refine nv_cVi (ts_has G h k0 hk0 x1) dX5_itemAt_2 lm_X5_26 y_qX5_has hk0 rfl rfl (by decide) rfl (Nat.le_of_ble_eq_true rfl) ?_
  refine nv_ifeqB dX5_itemAt_5 (fun c1 => ?_) (fun c1 => ?_)
  · replace hf := nv_ip c1 hf
    refine nv_aL dX5_itemAt_8 rfl ?_
    refine nv_gR (t := (k0 + 1)) lf_X5_9 dX5_itemAt_9 hk0 rfl ?_
    refine nv_iL dX5_itemAt_12 rfl ?_
    obtain ⟨g2, hf⟩ := nv_gd hf
    refine nv_aI dX5_itemAt_13 (nv_o5i hk0) g2 rfl ?_
    refine nv_goto dX5_itemAt_14 ?_
    obtain rfl := Option.some.inj hf
    exact nv_ireturnI dX5_itemAt_18 rfl
  · replace hf := nv_in c1 hf
    refine nv_k dX5_itemAt_17 ?_
    obtain rfl := Option.some.inj hf
    exact nv_ireturnI dX5_itemAt_18 rfl
/-! WhoseName$Sheet.lowestBits -/
theorem dX5_lowestBits_0 : nv_daload qX5_lowestBits 0 0 1 := Or.inr ⟨0, rfl, by decide +kernel, rfl⟩
theorem dX5_lowestBits_1 : nv_dc qX5_lowestBits 1 (.getfield 19) 3 4 := ⟨by decide +kernel, rfl⟩
theorem dX5_lowestBits_4 : nv_dif qX5_lowestBits 4 .ne 10 7 := ⟨6, by decide +kernel, by decide, rfl⟩
theorem dX5_lowestBits_7 : nv_diload qX5_lowestBits 7 1 8 := Or.inr ⟨1, rfl, by decide +kernel, rfl⟩
theorem dX5_lowestBits_8 : nv_dc qX5_lowestBits 8 (.i2b) 1 9 := ⟨by decide +kernel, rfl⟩
theorem dX5_lowestBits_9 : decode qX5_lowestBits.2.1 9 = .ok (.ireturn, 1) := by decide +kernel
theorem dX5_lowestBits_10 : nv_daload qX5_lowestBits 10 0 11 := Or.inr ⟨0, rfl, by decide +kernel, rfl⟩
theorem dX5_lowestBits_11 : nv_dc qX5_lowestBits 11 (.getfield 19) 3 14 := ⟨by decide +kernel, rfl⟩
theorem dX5_lowestBits_14 : nv_dk qX5_lowestBits 14 1 15 := Or.inl ⟨1, ⟨by decide +kernel, rfl⟩, by decide⟩
theorem dX5_lowestBits_15 : nv_dic qX5_lowestBits 15 .ne 23 18 := ⟨8, by decide +kernel, by decide, rfl⟩
theorem dX5_lowestBits_18 : nv_diload qX5_lowestBits 18 1 19 := Or.inr ⟨1, rfl, by decide +kernel, rfl⟩
theorem dX5_lowestBits_19 : nv_dc qX5_lowestBits 19 (.i2s) 1 20 := ⟨by decide +kernel, rfl⟩
theorem dX5_lowestBits_20 : nv_dgo qX5_lowestBits 20 24 := ⟨4, by decide +kernel, by decide⟩
theorem dX5_lowestBits_23 : nv_diload qX5_lowestBits 23 1 24 := Or.inr ⟨1, rfl, by decide +kernel, rfl⟩
theorem dX5_lowestBits_24 : decode qX5_lowestBits.2.1 24 = .ok (.ireturn, 1) := by decide +kernel
def fs_lowestBits (h : nv_Hp) (k0 : Nat) (x1 : Int32) : Int32 := (if (h k0 2) = 0 then (Int8.toInt32 (Int32.toInt8 x1)) else (if (h k0 2) = 1 then (Int16.toInt32 (Int32.toInt16 x1)) else x1))
set_option maxHeartbeats 2000000 in
theorem ts_lowestBits (G : nv_G) (h : nv_Hp) (k0 : Nat) (hk0 : nv_O 5 k0) (x1 : Int32) : nv_Mt G 0 qX5_lowestBits [.ref k0, .int x1] (nv_s h) (some (.int (fs_lowestBits h k0 x1)), nv_s h) := by
  refine nv_of (by decide +kernel) (fun ad => Nat.le_of_ble_eq_true rfl) (Nat.le_refl _) (Nat.le_of_ble_eq_true rfl) ?_
  show nv_E G 0 qX5_lowestBits 0 [some (.ref k0), some (.int x1)] [] (nv_s h) (some (.int (fs_lowestBits h k0 x1)), nv_s h)
  generalize hf : (fs_lowestBits h k0 x1) = r
  unfold fs_lowestBits at hf
  refine nv_aL dX5_lowestBits_0 rfl ?_
  refine nv_gI lf_X5_19 dX5_lowestBits_1 hk0 rfl ?_
  refine nv_ifne dX5_lowestBits_4 (fun c1 => ?_) (fun c1 => ?_)
  · replace hf := nv_ip c1 hf
    refine nv_iL dX5_lowestBits_7 rfl ?_
    refine nv_i2b dX5_lowestBits_8 ?_
    subst hf
    exact nv_ireturnI dX5_lowestBits_9 rfl
  · replace hf := nv_in c1 hf
    refine nv_aL dX5_lowestBits_10 rfl ?_
    refine nv_gI lf_X5_19 dX5_lowestBits_11 hk0 rfl ?_
    refine nv_k dX5_lowestBits_14 ?_
    refine nv_icne dX5_lowestBits_15 (fun c2 => ?_) (fun c2 => ?_)
    · replace hf := nv_ip c2 hf
      refine nv_iL dX5_lowestBits_18 rfl ?_
      refine nv_i2s dX5_lowestBits_19 ?_
      refine nv_goto dX5_lowestBits_20 ?_
      subst hf
      exact nv_ireturnI dX5_lowestBits_24 rfl
    · replace hf := nv_in c2 hf
      refine nv_iL dX5_lowestBits_23 rfl ?_
      subst hf
      exact nv_ireturnI dX5_lowestBits_24 rfl
/-! WhoseName$Sheet.put -/
theorem dX5_put_0 : nv_daload qX5_put 0 0 1 := Or.inr ⟨0, rfl, by decide +kernel, rfl⟩
theorem dX5_put_1 : nv_diload qX5_put 1 1 2 := Or.inr ⟨1, rfl, by decide +kernel, rfl⟩
theorem dX5_put_2 : nv_dc qX5_put 2 (.invokevirtual 26) 3 5 := ⟨by decide +kernel, rfl⟩
theorem dX5_put_5 : nv_dif qX5_put 5 .eq 19 8 := ⟨14, by decide +kernel, by decide, rfl⟩
theorem dX5_put_8 : nv_daload qX5_put 8 0 9 := Or.inr ⟨0, rfl, by decide +kernel, rfl⟩
theorem dX5_put_9 : nv_dc qX5_put 9 (.getfield 9) 3 12 := ⟨by decide +kernel, rfl⟩
theorem dX5_put_12 : nv_diload qX5_put 12 1 13 := Or.inr ⟨1, rfl, by decide +kernel, rfl⟩
theorem dX5_put_13 : nv_daload qX5_put 13 0 14 := Or.inr ⟨0, rfl, by decide +kernel, rfl⟩
theorem dX5_put_14 : nv_diload qX5_put 14 2 15 := Or.inr ⟨2, rfl, by decide +kernel, rfl⟩
theorem dX5_put_15 : nv_dc qX5_put 15 (.invokevirtual 30) 3 18 := ⟨by decide +kernel, rfl⟩
theorem dX5_put_18 : nv_dc qX5_put 18 (.iastore) 1 19 := ⟨by decide +kernel, rfl⟩
theorem dX5_put_19 : decode qX5_put.2.1 19 = .ok (.return_, 1) := by decide +kernel
def fs_put (h : nv_Hp) (k0 : Nat) (x1 : Int32) (x2 : Int32) : Option (nv_Hp) := (if (fs_has h k0 x1) = true then (if nv_inb x1 60 = true then (nv_lt (nv_up h (k0 + 1) x1.toNatClampNeg (fs_lowestBits h k0 x2)) fun h3 => some h3) else none) else some h)
set_option maxHeartbeats 2000000 in
theorem ts_put (G : nv_G) (h : nv_Hp) (k0 : Nat) (hk0 : nv_O 5 k0) (x1 : Int32) (x2 : Int32) {r : nv_Hp} (hf : (fs_put h k0 x1 x2) = some r) : nv_Mt G 1 qX5_put [.ref k0, .int x1, .int x2] (nv_s h) (none, nv_s r) := by
  refine nv_of (by decide +kernel) (fun ad => Nat.le_of_ble_eq_true rfl) (Nat.le_refl _) (Nat.le_of_ble_eq_true rfl) ?_
  show nv_E G 1 qX5_put 0 [some (.ref k0), some (.int x1), some (.int x2)] [] (nv_s h) (none, nv_s r)
  unfold fs_put at hf
  refine nv_aL dX5_put_0 rfl ?_
  refine nv_iL dX5_put_1 rfl ?_
  refine nv_cVi (ts_has G h k0 hk0 x1) dX5_put_2 lm_X5_26 y_qX5_has hk0 rfl rfl (by decide) rfl (Nat.le_of_ble_eq_true rfl) ?_
  refine nv_ifeqB dX5_put_5 (fun c1 => ?_) (fun c1 => ?_)
  · replace hf := nv_ip c1 hf
    refine nv_aL dX5_put_8 rfl ?_
    refine nv_gR (t := (k0 + 1)) lf_X5_9 dX5_put_9 hk0 rfl ?_
    refine nv_iL dX5_put_12 rfl ?_
    refine nv_aL dX5_put_13 rfl ?_
    refine nv_iL dX5_put_14 rfl ?_
    refine nv_cVi (ts_lowestBits G h k0 hk0 x2) dX5_put_15 lm_X5_30 y_qX5_lowestBits hk0 rfl rfl (by decide) rfl (Nat.le_of_ble_eq_true rfl) ?_
    obtain ⟨g2, hf⟩ := nv_gd hf
    refine nv_aP dX5_put_18 (nv_o5i hk0) g2 rfl ?_
    obtain ⟨h3, eh3, hf⟩ := nv_ltX hf
    rw [eh3]
    clear eh3
    obtain rfl := Option.some.inj hf
    exact nv_return dX5_put_19 rfl
  · replace hf := nv_in c1 hf
    obtain rfl := Option.some.inj hf
    exact nv_return dX5_put_19 rfl
/-! WhoseName.isWithin -/
theorem dX6_isWithin_0 : nv_diload qX6_isWithin 0 0 1 := Or.inr ⟨0, rfl, by decide +kernel, rfl⟩
theorem dX6_isWithin_1 : nv_diload qX6_isWithin 1 1 2 := Or.inr ⟨1, rfl, by decide +kernel, rfl⟩
theorem dX6_isWithin_2 : nv_dic qX6_isWithin 2 .lt 14 5 := ⟨12, by decide +kernel, by decide, rfl⟩
theorem dX6_isWithin_5 : nv_diload qX6_isWithin 5 0 6 := Or.inr ⟨0, rfl, by decide +kernel, rfl⟩
theorem dX6_isWithin_6 : nv_diload qX6_isWithin 6 2 7 := Or.inr ⟨2, rfl, by decide +kernel, rfl⟩
theorem dX6_isWithin_7 : nv_dic qX6_isWithin 7 .gt 14 10 := ⟨7, by decide +kernel, by decide, rfl⟩
theorem dX6_isWithin_10 : nv_dk qX6_isWithin 10 1 11 := Or.inl ⟨1, ⟨by decide +kernel, rfl⟩, by decide⟩
theorem dX6_isWithin_11 : nv_dgo qX6_isWithin 11 15 := ⟨4, by decide +kernel, by decide⟩
theorem dX6_isWithin_14 : nv_dk qX6_isWithin 14 0 15 := Or.inl ⟨0, ⟨by decide +kernel, rfl⟩, by decide⟩
theorem dX6_isWithin_15 : decode qX6_isWithin.2.1 15 = .ok (.ireturn, 1) := by decide +kernel
def fc_isWithin (x0 : Int32) (x1 : Int32) (x2 : Int32) : Bool := (if x0 < x1 then false else (if x2 < x0 then false else true))
set_option maxHeartbeats 2000000 in
theorem tc_isWithin (G : nv_G) (h : nv_Hp) (x0 : Int32) (x1 : Int32) (x2 : Int32) : nv_Mt G 0 qX6_isWithin [.int x0, .int x1, .int x2] (nv_s h) (some (.int (nv_bi (fc_isWithin x0 x1 x2))), nv_s h) := by
  refine nv_of (by decide +kernel) (fun ad => Nat.le_of_ble_eq_true rfl) (Nat.le_refl _) (Nat.le_of_ble_eq_true rfl) ?_
  show nv_E G 0 qX6_isWithin 0 [some (.int x0), some (.int x1), some (.int x2)] [] (nv_s h) (some (.int (nv_bi (fc_isWithin x0 x1 x2))), nv_s h)
  generalize hf : (fc_isWithin x0 x1 x2) = r
  unfold fc_isWithin at hf
  refine nv_iL dX6_isWithin_0 rfl ?_
  refine nv_iL dX6_isWithin_1 rfl ?_
  refine nv_iclt dX6_isWithin_2 (fun c1 => ?_) (fun c1 => ?_)
  · replace hf := nv_ip c1 hf
    refine nv_k dX6_isWithin_14 ?_
    subst hf
    exact nv_ireturnB (b := false) dX6_isWithin_15 rfl
  · replace hf := nv_in c1 hf
    refine nv_iL dX6_isWithin_5 rfl ?_
    refine nv_iL dX6_isWithin_6 rfl ?_
    refine nv_icgt dX6_isWithin_7 (fun c2 => ?_) (fun c2 => ?_)
    · replace hf := nv_ip c2 hf
      refine nv_k dX6_isWithin_14 ?_
      subst hf
      exact nv_ireturnB (b := false) dX6_isWithin_15 rfl
    · replace hf := nv_in c2 hf
      refine nv_k dX6_isWithin_10 ?_
      refine nv_goto dX6_isWithin_11 ?_
      subst hf
      exact nv_ireturnB (b := true) dX6_isWithin_15 rfl
/-! WhoseName.isPerson -/
theorem dX6_isPerson_0 : nv_diload qX6_isPerson 0 0 1 := Or.inr ⟨0, rfl, by decide +kernel, rfl⟩
theorem dX6_isPerson_1 : nv_dk qX6_isPerson 1 0 2 := Or.inl ⟨0, ⟨by decide +kernel, rfl⟩, by decide⟩
theorem dX6_isPerson_2 : nv_dk qX6_isPerson 2 7 4 := Or.inr (Or.inl ⟨7, ⟨by decide +kernel, rfl⟩, by decide⟩)
theorem dX6_isPerson_4 : nv_dc qX6_isPerson 4 (.invokestatic 74) 3 7 := ⟨by decide +kernel, rfl⟩
theorem dX6_isPerson_7 : decode qX6_isPerson.2.1 7 = .ok (.ireturn, 1) := by decide +kernel
def fc_isPerson (x0 : Int32) : Bool := (fc_isWithin x0 0 7)
set_option maxHeartbeats 2000000 in
theorem tc_isPerson (G : nv_G) (h : nv_Hp) (x0 : Int32) : nv_Mt G 1 qX6_isPerson [.int x0] (nv_s h) (some (.int (nv_bi (fc_isPerson x0))), nv_s h) := by
  refine nv_of (by decide +kernel) (fun ad => Nat.le_of_ble_eq_true rfl) (Nat.le_refl _) (Nat.le_of_ble_eq_true rfl) ?_
  show nv_E G 1 qX6_isPerson 0 [some (.int x0)] [] (nv_s h) (some (.int (nv_bi (fc_isPerson x0))), nv_s h)
  generalize hf : (fc_isPerson x0) = r
  unfold fc_isPerson at hf
  refine nv_iL dX6_isPerson_0 rfl ?_
  refine nv_k dX6_isPerson_1 ?_
  refine nv_k dX6_isPerson_2 ?_
  refine nv_cSi (tc_isWithin G h x0 0 7) dX6_isPerson_4 lm_X6_74 y_qX6_isWithin rfl (by decide) rfl (Nat.le_of_ble_eq_true rfl) ?_
  subst hf
  exact nv_ireturnB (b := (fc_isWithin x0 0 7)) dX6_isPerson_7 rfl
/-! WhoseName.purse -/
theorem dX6_purse_0 : nv_diload qX6_purse 0 1 1 := Or.inr ⟨1, rfl, by decide +kernel, rfl⟩
theorem dX6_purse_1 : nv_dc qX6_purse 1 (.invokestatic 70) 3 4 := ⟨by decide +kernel, rfl⟩
theorem dX6_purse_4 : nv_dif qX6_purse 4 .eq 18 7 := ⟨14, by decide +kernel, by decide, rfl⟩
theorem dX6_purse_7 : nv_diload qX6_purse 7 2 8 := Or.inr ⟨2, rfl, by decide +kernel, rfl⟩
theorem dX6_purse_8 : nv_dk qX6_purse 8 0 9 := Or.inl ⟨0, ⟨by decide +kernel, rfl⟩, by decide⟩
theorem dX6_purse_9 : nv_dk qX6_purse 9 9999 12 := Or.inr (Or.inr ⟨9999, ⟨by decide +kernel, rfl⟩, by decide⟩)
theorem dX6_purse_12 : nv_dc qX6_purse 12 (.invokestatic 74) 3 15 := ⟨by decide +kernel, rfl⟩
theorem dX6_purse_15 : nv_dif qX6_purse 15 .ne 21 18 := ⟨6, by decide +kernel, by decide, rfl⟩
theorem dX6_purse_18 : nv_dk qX6_purse 18 (-2) 20 := Or.inr (Or.inl ⟨(-2), ⟨by decide +kernel, rfl⟩, by decide⟩)
theorem dX6_purse_20 : decode qX6_purse.2.1 20 = .ok (.ireturn, 1) := by decide +kernel
theorem dX6_purse_21 : nv_daload qX6_purse 21 0 22 := Or.inr ⟨0, rfl, by decide +kernel, rfl⟩
theorem dX6_purse_22 : nv_dc qX6_purse 22 (.getfield 9) 3 25 := ⟨by decide +kernel, rfl⟩
theorem dX6_purse_25 : nv_diload qX6_purse 25 1 26 := Or.inr ⟨1, rfl, by decide +kernel, rfl⟩
theorem dX6_purse_26 : nv_dc qX6_purse 26 (.iaload) 1 27 := ⟨by decide +kernel, rfl⟩
theorem dX6_purse_27 : nv_distore qX6_purse 27 3 28 := Or.inr ⟨3, rfl, by decide +kernel, rfl⟩
theorem dX6_purse_28 : nv_daload qX6_purse 28 0 29 := Or.inr ⟨0, rfl, by decide +kernel, rfl⟩
theorem dX6_purse_29 : nv_dc qX6_purse 29 (.getfield 9) 3 32 := ⟨by decide +kernel, rfl⟩
theorem dX6_purse_32 : nv_diload qX6_purse 32 1 33 := Or.inr ⟨1, rfl, by decide +kernel, rfl⟩
theorem dX6_purse_33 : nv_diload qX6_purse 33 2 34 := Or.inr ⟨2, rfl, by decide +kernel, rfl⟩
theorem dX6_purse_34 : nv_dc qX6_purse 34 (.iastore) 1 35 := ⟨by decide +kernel, rfl⟩
theorem dX6_purse_35 : nv_diload qX6_purse 35 3 36 := Or.inr ⟨3, rfl, by decide +kernel, rfl⟩
theorem dX6_purse_36 : decode qX6_purse.2.1 36 = .ok (.ireturn, 1) := by decide +kernel
def fc_purse (h : nv_Hp) (x1 : Int32) (x2 : Int32) : Option (Int32 × nv_Hp) := (if (fc_isPerson x1) = true then (if (fc_isWithin x2 0 9999) = true then (if nv_inb x1 8 = true then (nv_lt ((h 1 x1.toNatClampNeg)) fun v4 => (nv_lt (nv_up h 1 x1.toNatClampNeg x2) fun h5 => some (v4, h5))) else none) else some ((-2), h)) else some ((-2), h))
set_option maxHeartbeats 2000000 in
theorem tc_purse (G : nv_G) (h : nv_Hp) (x1 : Int32) (x2 : Int32) {r : Int32 × nv_Hp} (hf : (fc_purse h x1 x2) = some r) : nv_Mt G 2 qX6_purse [.ref 0, .int x1, .int x2] (nv_s h) (some (.int r.1), nv_s r.2) := by
  refine nv_of (by decide +kernel) (fun ad => Nat.le_of_ble_eq_true rfl) (Nat.le_refl _) (Nat.le_of_ble_eq_true rfl) ?_
  show nv_E G 2 qX6_purse 0 [some (.ref 0), some (.int x1), some (.int x2), none] [] (nv_s h) (some (.int r.1), nv_s r.2)
  unfold fc_purse at hf
  refine nv_iL dX6_purse_0 rfl ?_
  refine nv_cSi (tc_isPerson G h x1) dX6_purse_1 lm_X6_70 y_qX6_isPerson rfl (by decide) rfl (Nat.le_of_ble_eq_true rfl) ?_
  refine nv_ifeqB dX6_purse_4 (fun c1 => ?_) (fun c1 => ?_)
  · replace hf := nv_ip c1 hf
    refine nv_iL dX6_purse_7 rfl ?_
    refine nv_k dX6_purse_8 ?_
    refine nv_k dX6_purse_9 ?_
    refine nv_cSi (tc_isWithin G h x2 0 9999) dX6_purse_12 lm_X6_74 y_qX6_isWithin rfl (by decide) rfl (Nat.le_of_ble_eq_true rfl) ?_
    refine nv_ifneB dX6_purse_15 (fun c2 => ?_) (fun c2 => ?_)
    · replace hf := nv_ip c2 hf
      refine nv_aL dX6_purse_21 rfl ?_
      refine nv_tR lf_X6_9 dX6_purse_22 ko_0 rfl ?_
      refine nv_iL dX6_purse_25 rfl ?_
      obtain ⟨g3, hf⟩ := nv_gd hf
      refine nv_aI dX6_purse_26 ka_1 g3 rfl ?_
      obtain ⟨v4, ev4, hf⟩ := nv_ltX hf
      rw [ev4]
      clear ev4
      refine nv_iS dX6_purse_27 (by decide) rfl rfl ?_
      refine nv_aL dX6_purse_28 rfl ?_
      refine nv_tR lf_X6_9 dX6_purse_29 ko_0 rfl ?_
      refine nv_iL dX6_purse_32 rfl ?_
      refine nv_iL dX6_purse_33 rfl ?_
      refine nv_aP dX6_purse_34 ka_1 g3 rfl ?_
      obtain ⟨h5, eh5, hf⟩ := nv_ltX hf
      rw [eh5]
      clear eh5
      refine nv_iL dX6_purse_35 rfl ?_
      obtain rfl := Option.some.inj hf
      exact nv_ireturnI dX6_purse_36 rfl
    · replace hf := nv_in c2 hf
      refine nv_k dX6_purse_18 ?_
      obtain rfl := Option.some.inj hf
      exact nv_ireturnI dX6_purse_20 rfl
  · replace hf := nv_in c1 hf
    refine nv_k dX6_purse_18 ?_
    obtain rfl := Option.some.inj hf
    exact nv_ireturnI dX6_purse_20 rfl
/-! WhoseName.isLeave -/
theorem dX6_isLeave_0 : nv_diload qX6_isLeave 0 1 1 := Or.inr ⟨1, rfl, by decide +kernel, rfl⟩
theorem dX6_isLeave_1 : nv_dk qX6_isLeave 1 0 2 := Or.inl ⟨0, ⟨by decide +kernel, rfl⟩, by decide⟩
theorem dX6_isLeave_2 : nv_daload qX6_isLeave 2 0 3 := Or.inr ⟨0, rfl, by decide +kernel, rfl⟩
theorem dX6_isLeave_3 : nv_dc qX6_isLeave 3 (.getfield 85) 3 6 := ⟨by decide +kernel, rfl⟩
theorem dX6_isLeave_6 : nv_dk qX6_isLeave 6 1 7 := Or.inl ⟨1, ⟨by decide +kernel, rfl⟩, by decide⟩
theorem dX6_isLeave_7 : nv_dc qX6_isLeave 7 (.isub) 1 8 := ⟨by decide +kernel, rfl⟩
theorem dX6_isLeave_8 : nv_dc qX6_isLeave 8 (.invokestatic 74) 3 11 := ⟨by decide +kernel, rfl⟩
theorem dX6_isLeave_11 : decode qX6_isLeave.2.1 11 = .ok (.ireturn, 1) := by decide +kernel
def fc_isLeave (h : nv_Hp) (x1 : Int32) : Bool := (fc_isWithin x1 0 ((h 0 7) - 1))
set_option maxHeartbeats 2000000 in
theorem tc_isLeave (G : nv_G) (h : nv_Hp) (x1 : Int32) : nv_Mt G 1 qX6_isLeave [.ref 0, .int x1] (nv_s h) (some (.int (nv_bi (fc_isLeave h x1))), nv_s h) := by
  refine nv_of (by decide +kernel) (fun ad => Nat.le_of_ble_eq_true rfl) (Nat.le_refl _) (Nat.le_of_ble_eq_true rfl) ?_
  show nv_E G 1 qX6_isLeave 0 [some (.ref 0), some (.int x1)] [] (nv_s h) (some (.int (nv_bi (fc_isLeave h x1))), nv_s h)
  generalize hf : (fc_isLeave h x1) = r
  unfold fc_isLeave at hf
  refine nv_iL dX6_isLeave_0 rfl ?_
  refine nv_k dX6_isLeave_1 ?_
  refine nv_aL dX6_isLeave_2 rfl ?_
  refine nv_tI lf_X6_85 dX6_isLeave_3 ko_0 rfl ?_
  refine nv_k dX6_isLeave_6 ?_
  refine nv_isub dX6_isLeave_7 ?_
  refine nv_cSi (tc_isWithin G h x1 0 ((h 0 7) - 1)) dX6_isLeave_8 lm_X6_74 y_qX6_isWithin rfl (by decide) rfl (Nat.le_of_ble_eq_true rfl) ?_
  subst hf
  exact nv_ireturnB (b := (fc_isWithin x1 0 ((h 0 7) - 1))) dX6_isLeave_11 rfl
/-! WhoseName.mayBePassed -/
theorem dX6_mayBePassed_0 : nv_daload qX6_mayBePassed 0 0 1 := Or.inr ⟨0, rfl, by decide +kernel, rfl⟩
theorem dX6_mayBePassed_1 : nv_diload qX6_mayBePassed 1 1 2 := Or.inr ⟨1, rfl, by decide +kernel, rfl⟩
theorem dX6_mayBePassed_2 : nv_dc qX6_mayBePassed 2 (.invokevirtual 114) 3 5 := ⟨by decide +kernel, rfl⟩
theorem dX6_mayBePassed_5 : nv_dif qX6_mayBePassed 5 .ne 10 8 := ⟨5, by decide +kernel, by decide, rfl⟩
theorem dX6_mayBePassed_8 : nv_dk qX6_mayBePassed 8 0 9 := Or.inl ⟨0, ⟨by decide +kernel, rfl⟩, by decide⟩
theorem dX6_mayBePassed_9 : decode qX6_mayBePassed.2.1 9 = .ok (.ireturn, 1) := by decide +kernel
theorem dX6_mayBePassed_10 : nv_daload qX6_mayBePassed 10 0 11 := Or.inr ⟨0, rfl, by decide +kernel, rfl⟩
theorem dX6_mayBePassed_11 : nv_dc qX6_mayBePassed 11 (.getfield 15) 3 14 := ⟨by decide +kernel, rfl⟩
theorem dX6_mayBePassed_14 : nv_diload qX6_mayBePassed 14 1 15 := Or.inr ⟨1, rfl, by decide +kernel, rfl⟩
theorem dX6_mayBePassed_15 : nv_dc qX6_mayBePassed 15 (.aaload) 1 16 := ⟨by decide +kernel, rfl⟩
theorem dX6_mayBePassed_16 : nv_dastore qX6_mayBePassed 16 2 17 := Or.inr ⟨2, rfl, by decide +kernel, rfl⟩
theorem dX6_mayBePassed_17 : nv_daload qX6_mayBePassed 17 2 18 := Or.inr ⟨2, rfl, by decide +kernel, rfl⟩
theorem dX6_mayBePassed_18 : nv_dc qX6_mayBePassed 18 (.getfield 89) 3 21 := ⟨by decide +kernel, rfl⟩
theorem dX6_mayBePassed_21 : nv_dif qX6_mayBePassed 21 .eq 32 24 := ⟨11, by decide +kernel, by decide, rfl⟩
theorem dX6_mayBePassed_24 : nv_daload qX6_mayBePassed 24 2 25 := Or.inr ⟨2, rfl, by decide +kernel, rfl⟩
theorem dX6_mayBePassed_25 : nv_dc qX6_mayBePassed 25 (.getfield 89) 3 28 := ⟨by decide +kernel, rfl⟩
theorem dX6_mayBePassed_28 : nv_dk qX6_mayBePassed 28 3 29 := Or.inl ⟨3, ⟨by decide +kernel, rfl⟩, by decide⟩
theorem dX6_mayBePassed_29 : nv_dic qX6_mayBePassed 29 .ne 44 32 := ⟨15, by decide +kernel, by decide, rfl⟩
theorem dX6_mayBePassed_32 : nv_daload qX6_mayBePassed 32 2 33 := Or.inr ⟨2, rfl, by decide +kernel, rfl⟩
theorem dX6_mayBePassed_33 : nv_dc qX6_mayBePassed 33 (.getfield 95) 3 36 := ⟨by decide +kernel, rfl⟩
theorem dX6_mayBePassed_36 : nv_dk qX6_mayBePassed 36 1 37 := Or.inl ⟨1, ⟨by decide +kernel, rfl⟩, by decide⟩
theorem dX6_mayBePassed_37 : nv_dic qX6_mayBePassed 37 .ne 44 40 := ⟨7, by decide +kernel, by decide, rfl⟩
theorem dX6_mayBePassed_40 : nv_dk qX6_mayBePassed 40 1 41 := Or.inl ⟨1, ⟨by decide +kernel, rfl⟩, by decide⟩
theorem dX6_mayBePassed_41 : nv_dgo qX6_mayBePassed 41 45 := ⟨4, by decide +kernel, by decide⟩
theorem dX6_mayBePassed_44 : nv_dk qX6_mayBePassed 44 0 45 := Or.inl ⟨0, ⟨by decide +kernel, rfl⟩, by decide⟩
theorem dX6_mayBePassed_45 : decode qX6_mayBePassed.2.1 45 = .ok (.ireturn, 1) := by decide +kernel
def fc_mayBePassed_32 (h : nv_Hp) (k2 : Nat)   : Option (Bool) := (if (h k2 3) = 1 then some true else some false)
set_option maxHeartbeats 2000000 in
theorem tc_mayBePassed_32 (G : nv_G) (h : nv_Hp) (k2 : Nat) (hk2 : nv_O 4 k2)   (o1 : Option Value) (r : Bool) (hf : fc_mayBePassed_32 h k2 = some r) : nv_E G 2 qX6_mayBePassed 32 [some (.ref 0), o1, some (.ref k2)] [] (nv_s h) (some (.int (nv_bi r)), nv_s h) := by
  unfold fc_mayBePassed_32 at hf
  refine nv_aL dX6_mayBePassed_32 rfl ?_
  refine nv_gI lf_X6_95 dX6_mayBePassed_33 hk2 rfl ?_
  refine nv_k dX6_mayBePassed_36 ?_
  refine nv_icne dX6_mayBePassed_37 (fun c1 => ?_) (fun c1 => ?_)
  · replace hf := nv_ip c1 hf
    refine nv_k dX6_mayBePassed_40 ?_
    refine nv_goto dX6_mayBePassed_41 ?_
    obtain rfl := Option.some.inj hf
    exact nv_ireturnB (b := true) dX6_mayBePassed_45 rfl
  · replace hf := nv_in c1 hf
    refine nv_k dX6_mayBePassed_44 ?_
    obtain rfl := Option.some.inj hf
    exact nv_ireturnB (b := false) dX6_mayBePassed_45 rfl
def fc_mayBePassed (h : nv_Hp) (x1 : Int32) : Option (Bool) := (if (fc_isLeave h x1) = true then (if nv_inb x1 12 = true then (if (h (13 + x1.toNatClampNeg) 0) = 0 then (fc_mayBePassed_32 h (13 + x1.toNatClampNeg)) else (if (h (13 + x1.toNatClampNeg) 0) = 3 then (fc_mayBePassed_32 h (13 + x1.toNatClampNeg)) else some false)) else none) else some false)
set_option maxHeartbeats 2000000 in
theorem tc_mayBePassed (G : nv_G) (h : nv_Hp) (x1 : Int32) {r : Bool} (hf : (fc_mayBePassed h x1) = some r) : nv_Mt G 2 qX6_mayBePassed [.ref 0, .int x1] (nv_s h) (some (.int (nv_bi r)), nv_s h) := by
  refine nv_of (by decide +kernel) (fun ad => Nat.le_of_ble_eq_true rfl) (Nat.le_refl _) (Nat.le_of_ble_eq_true rfl) ?_
  show nv_E G 2 qX6_mayBePassed 0 [some (.ref 0), some (.int x1), none] [] (nv_s h) (some (.int (nv_bi r)), nv_s h)
  unfold fc_mayBePassed at hf
  refine nv_aL dX6_mayBePassed_0 rfl ?_
  refine nv_iL dX6_mayBePassed_1 rfl ?_
  refine nv_cVi (tc_isLeave G h x1) dX6_mayBePassed_2 lm_X6_114 y_qX6_isLeave ko_0 rfl rfl (by decide) rfl (Nat.le_of_ble_eq_true rfl) ?_
  refine nv_ifneB dX6_mayBePassed_5 (fun c1 => ?_) (fun c1 => ?_)
  · replace hf := nv_ip c1 hf
    refine nv_aL dX6_mayBePassed_10 rfl ?_
    refine nv_tR lf_X6_15 dX6_mayBePassed_11 ko_0 rfl ?_
    refine nv_iL dX6_mayBePassed_14 rfl ?_
    obtain ⟨g2, hf⟩ := nv_gd hf
    refine nv_aR dX6_mayBePassed_15 kr_2 ⟨_, rfl⟩ g2 (nv_q1 _ _) ?_
    refine nv_aS dX6_mayBePassed_16 (by decide) rfl rfl ?_
    refine nv_aL dX6_mayBePassed_17 rfl ?_
    refine nv_gI lf_X6_89 dX6_mayBePassed_18 (nv_o4 g2) rfl ?_
    refine nv_ifeq dX6_mayBePassed_21 (fun c3 => ?_) (fun c3 => ?_)
    · replace hf := nv_ip c3 hf
      exact tc_mayBePassed_32 G _ _ (nv_o4 g2) _ _ hf
    · replace hf := nv_in c3 hf
      refine nv_aL dX6_mayBePassed_24 rfl ?_
      refine nv_gI lf_X6_89 dX6_mayBePassed_25 (nv_o4 g2) rfl ?_
      refine nv_k dX6_mayBePassed_28 ?_
      refine nv_icne dX6_mayBePassed_29 (fun c4 => ?_) (fun c4 => ?_)
      · replace hf := nv_ip c4 hf
        exact tc_mayBePassed_32 G _ _ (nv_o4 g2) _ _ hf
      · replace hf := nv_in c4 hf
        refine nv_k dX6_mayBePassed_44 ?_
        obtain rfl := Option.some.inj hf
        exact nv_ireturnB (b := false) dX6_mayBePassed_45 rfl
  · replace hf := nv_in c1 hf
    refine nv_k dX6_mayBePassed_8 ?_
    obtain rfl := Option.some.inj hf
    exact nv_ireturnB (b := false) dX6_mayBePassed_9 rfl
/-! WhoseName.isFlag -/
theorem dX6_isFlag_0 : nv_diload qX6_isFlag 0 0 1 := Or.inr ⟨0, rfl, by decide +kernel, rfl⟩
theorem dX6_isFlag_1 : nv_dif qX6_isFlag 1 .eq 9 4 := ⟨8, by decide +kernel, by decide, rfl⟩
theorem dX6_isFlag_4 : nv_diload qX6_isFlag 4 0 5 := Or.inr ⟨0, rfl, by decide +kernel, rfl⟩
theorem dX6_isFlag_5 : nv_dk qX6_isFlag 5 1 6 := Or.inl ⟨1, ⟨by decide +kernel, rfl⟩, by decide⟩
theorem dX6_isFlag_6 : nv_dic qX6_isFlag 6 .ne 13 9 := ⟨7, by decide +kernel, by decide, rfl⟩
theorem dX6_isFlag_9 : nv_dk qX6_isFlag 9 1 10 := Or.inl ⟨1, ⟨by decide +kernel, rfl⟩, by decide⟩
theorem dX6_isFlag_10 : nv_dgo qX6_isFlag 10 14 := ⟨4, by decide +kernel, by decide⟩
theorem dX6_isFlag_13 : nv_dk qX6_isFlag 13 0 14 := Or.inl ⟨0, ⟨by decide +kernel, rfl⟩, by decide⟩
theorem dX6_isFlag_14 : decode qX6_isFlag.2.1 14 = .ok (.ireturn, 1) := by decide +kernel
def fc_isFlag (x0 : Int32) : Bool := (if x0 = 0 then true else (if x0 = 1 then true else false))
set_option maxHeartbeats 2000000 in
theorem tc_isFlag (G : nv_G) (h : nv_Hp) (x0 : Int32) : nv_Mt G 0 qX6_isFlag [.int x0] (nv_s h) (some (.int (nv_bi (fc_isFlag x0))), nv_s h) := by
  refine nv_of (by decide +kernel) (fun ad => Nat.le_of_ble_eq_true rfl) (Nat.le_refl _) (Nat.le_of_ble_eq_true rfl) ?_
  show nv_E G 0 qX6_isFlag 0 [some (.int x0)] [] (nv_s h) (some (.int (nv_bi (fc_isFlag x0))), nv_s h)
  generalize hf : (fc_isFlag x0) = r
  unfold fc_isFlag at hf
  refine nv_iL dX6_isFlag_0 rfl ?_
  refine nv_ifeq dX6_isFlag_1 (fun c1 => ?_) (fun c1 => ?_)
  · replace hf := nv_ip c1 hf
    refine nv_k dX6_isFlag_9 ?_
    refine nv_goto dX6_isFlag_10 ?_
    subst hf
    exact nv_ireturnB (b := true) dX6_isFlag_14 rfl
  · replace hf := nv_in c1 hf
    refine nv_iL dX6_isFlag_4 rfl ?_
    refine nv_k dX6_isFlag_5 ?_
    refine nv_icne dX6_isFlag_6 (fun c2 => ?_) (fun c2 => ?_)
    · replace hf := nv_ip c2 hf
      refine nv_k dX6_isFlag_9 ?_
      refine nv_goto dX6_isFlag_10 ?_
      subst hf
      exact nv_ireturnB (b := true) dX6_isFlag_14 rfl
    · replace hf := nv_in c2 hf
      refine nv_k dX6_isFlag_13 ?_
      subst hf
      exact nv_ireturnB (b := false) dX6_isFlag_14 rfl
/-! WhoseName.mayBeGiven -/
theorem dX6_mayBeGiven_0 : nv_diload qX6_mayBeGiven 0 3 1 := Or.inr ⟨3, rfl, by decide +kernel, rfl⟩
theorem dX6_mayBeGiven_1 : nv_dc qX6_mayBeGiven 1 (.invokestatic 70) 3 4 := ⟨by decide +kernel, rfl⟩
theorem dX6_mayBeGiven_4 : nv_dif qX6_mayBeGiven 4 .ne 9 7 := ⟨5, by decide +kernel, by decide, rfl⟩
theorem dX6_mayBeGiven_7 : nv_dk qX6_mayBeGiven 7 0 8 := Or.inl ⟨0, ⟨by decide +kernel, rfl⟩, by decide⟩
theorem dX6_mayBeGiven_8 : decode qX6_mayBeGiven.2.1 8 = .ok (.ireturn, 1) := by decide +kernel
theorem dX6_mayBeGiven_9 : nv_diload qX6_mayBeGiven 9 1 10 := Or.inr ⟨1, rfl, by decide +kernel, rfl⟩
theorem dX6_mayBeGiven_10 : nv_dk qX6_mayBeGiven 10 3 11 := Or.inl ⟨3, ⟨by decide +kernel, rfl⟩, by decide⟩
theorem dX6_mayBeGiven_11 : nv_dic qX6_mayBeGiven 11 .ne 49 14 := ⟨38, by decide +kernel, by decide, rfl⟩
theorem dX6_mayBeGiven_14 : nv_daload qX6_mayBeGiven 14 0 15 := Or.inr ⟨0, rfl, by decide +kernel, rfl⟩
theorem dX6_mayBeGiven_15 : nv_diload qX6_mayBeGiven 15 2 16 := Or.inr ⟨2, rfl, by decide +kernel, rfl⟩
theorem dX6_mayBeGiven_16 : nv_dc qX6_mayBeGiven 16 (.invokevirtual 126) 3 19 := ⟨by decide +kernel, rfl⟩
theorem dX6_mayBeGiven_19 : nv_dif qX6_mayBeGiven 19 .eq 47 22 := ⟨28, by decide +kernel, by decide, rfl⟩
theorem dX6_mayBeGiven_22 : nv_daload qX6_mayBeGiven 22 0 23 := Or.inr ⟨0, rfl, by decide +kernel, rfl⟩
theorem dX6_mayBeGiven_23 : nv_dc qX6_mayBeGiven 23 (.getfield 15) 3 26 := ⟨by decide +kernel, rfl⟩
theorem dX6_mayBeGiven_26 : nv_diload qX6_mayBeGiven 26 2 27 := Or.inr ⟨2, rfl, by decide +kernel, rfl⟩
theorem dX6_mayBeGiven_27 : nv_dc qX6_mayBeGiven 27 (.aaload) 1 28 := ⟨by decide +kernel, rfl⟩
theorem dX6_mayBeGiven_28 : nv_dc qX6_mayBeGiven 28 (.getfield 92) 3 31 := ⟨by decide +kernel, rfl⟩
theorem dX6_mayBeGiven_31 : nv_diload qX6_mayBeGiven 31 3 32 := Or.inr ⟨3, rfl, by decide +kernel, rfl⟩
theorem dX6_mayBeGiven_32 : nv_dic qX6_mayBeGiven 32 .eq 47 35 := ⟨15, by decide +kernel, by decide, rfl⟩
theorem dX6_mayBeGiven_35 : nv_diload qX6_mayBeGiven 35 4 37 := Or.inl ⟨by decide +kernel, rfl⟩
theorem dX6_mayBeGiven_37 : nv_dc qX6_mayBeGiven 37 (.invokestatic 129) 3 40 := ⟨by decide +kernel, rfl⟩
theorem dX6_mayBeGiven_40 : nv_dif qX6_mayBeGiven 40 .eq 47 43 := ⟨7, by decide +kernel, by decide, rfl⟩
theorem dX6_mayBeGiven_43 : nv_dk qX6_mayBeGiven 43 1 44 := Or.inl ⟨1, ⟨by decide +kernel, rfl⟩, by decide⟩
theorem dX6_mayBeGiven_44 : nv_dgo qX6_mayBeGiven 44 48 := ⟨4, by decide +kernel, by decide⟩
theorem dX6_mayBeGiven_47 : nv_dk qX6_mayBeGiven 47 0 48 := Or.inl ⟨0, ⟨by decide +kernel, rfl⟩, by decide⟩
theorem dX6_mayBeGiven_48 : decode qX6_mayBeGiven.2.1 48 = .ok (.ireturn, 1) := by decide +kernel
theorem dX6_mayBeGiven_49 : nv_diload qX6_mayBeGiven 49 2 50 := Or.inr ⟨2, rfl, by decide +kernel, rfl⟩
theorem dX6_mayBeGiven_50 : nv_dc qX6_mayBeGiven 50 (.invokestatic 70) 3 53 := ⟨by decide +kernel, rfl⟩
theorem dX6_mayBeGiven_53 : nv_dif qX6_mayBeGiven 53 .eq 61 56 := ⟨8, by decide +kernel, by decide, rfl⟩
theorem dX6_mayBeGiven_56 : nv_diload qX6_mayBeGiven 56 2 57 := Or.inr ⟨2, rfl, by decide +kernel, rfl⟩
theorem dX6_mayBeGiven_57 : nv_diload qX6_mayBeGiven 57 3 58 := Or.inr ⟨3, rfl, by decide +kernel, rfl⟩
theorem dX6_mayBeGiven_58 : nv_dic qX6_mayBeGiven 58 .ne 63 61 := ⟨5, by decide +kernel, by decide, rfl⟩
theorem dX6_mayBeGiven_61 : nv_dk qX6_mayBeGiven 61 0 62 := Or.inl ⟨0, ⟨by decide +kernel, rfl⟩, by decide⟩
theorem dX6_mayBeGiven_62 : decode qX6_mayBeGiven.2.1 62 = .ok (.ireturn, 1) := by decide +kernel
theorem dX6_mayBeGiven_63 : nv_diload qX6_mayBeGiven 63 1 64 := Or.inr ⟨1, rfl, by decide +kernel, rfl⟩
theorem dX6_mayBeGiven_64 : decode qX6_mayBeGiven.2.1 64 = .ok (.tableswitch 71 0 2 #[28, 34, 45], 28) := by decide +kernel
theorem swX6_mayBeGiven_64_0 (x : Int32) (hx : x = 0) : nv_dsw qX6_mayBeGiven 64 x 92 := by subst hx; exact Or.inl ⟨_, _, _, _, _, dX6_mayBeGiven_64, Or.inl ⟨28, by decide, by decide, rfl, by decide⟩⟩
theorem swX6_mayBeGiven_64_1 (x : Int32) (hx : x = 1) : nv_dsw qX6_mayBeGiven 64 x 98 := by subst hx; exact Or.inl ⟨_, _, _, _, _, dX6_mayBeGiven_64, Or.inl ⟨34, by decide, by decide, rfl, by decide⟩⟩
theorem swX6_mayBeGiven_64_2 (x : Int32) (hx : x = 2) : nv_dsw qX6_mayBeGiven 64 x 109 := by subst hx; exact Or.inl ⟨_, _, _, _, _, dX6_mayBeGiven_64, Or.inl ⟨45, by decide, by decide, rfl, by decide⟩⟩
theorem swX6_mayBeGiven_64_d (x : Int32) (c0 : ¬ x = 0) (c1 : ¬ x = 1) (c2 : ¬ x = 2) : nv_dsw qX6_mayBeGiven 64 x 135 := by
  have g0 : x.toInt ≠ 0 := fun e => c0 (Int32.toInt_inj.mp (e.trans (by decide)))
  have g1 : x.toInt ≠ 1 := fun e => c1 (Int32.toInt_inj.mp (e.trans (by decide)))
  have g2 : x.toInt ≠ 2 := fun e => c2 (Int32.toInt_inj.mp (e.trans (by decide)))
  exact Or.inl ⟨_, _, _, _, _, dX6_mayBeGiven_64, Or.inr ⟨by omega, by decide⟩⟩
theorem dX6_mayBeGiven_92 : nv_diload qX6_mayBeGiven 92 4 94 := Or.inl ⟨by decide +kernel, rfl⟩
theorem dX6_mayBeGiven_94 : nv_dc qX6_mayBeGiven 94 (.invokestatic 129) 3 97 := ⟨by decide +kernel, rfl⟩
theorem dX6_mayBeGiven_97 : decode qX6_mayBeGiven.2.1 97 = .ok (.ireturn, 1) := by decide +kernel
theorem dX6_mayBeGiven_98 : nv_diload qX6_mayBeGiven 98 4 100 := Or.inl ⟨by decide +kernel, rfl⟩
theorem dX6_mayBeGiven_100 : nv_dif qX6_mayBeGiven 100 .ne 107 103 := ⟨7, by decide +kernel, by decide, rfl⟩
theorem dX6_mayBeGiven_103 : nv_dk qX6_mayBeGiven 103 1 104 := Or.inl ⟨1, ⟨by decide +kernel, rfl⟩, by decide⟩
theorem dX6_mayBeGiven_104 : nv_dgo qX6_mayBeGiven 104 108 := ⟨4, by decide +kernel, by decide⟩
theorem dX6_mayBeGiven_107 : nv_dk qX6_mayBeGiven 107 0 108 := Or.inl ⟨0, ⟨by decide +kernel, rfl⟩, by decide⟩
theorem dX6_mayBeGiven_108 : decode qX6_mayBeGiven.2.1 108 = .ok (.ireturn, 1) := by decide +kernel
theorem dX6_mayBeGiven_109 : nv_diload qX6_mayBeGiven 109 4 111 := Or.inl ⟨by decide +kernel, rfl⟩
theorem dX6_mayBeGiven_111 : nv_dc qX6_mayBeGiven 111 (.invokestatic 70) 3 114 := ⟨by decide +kernel, rfl⟩
theorem dX6_mayBeGiven_114 : nv_dif qX6_mayBeGiven 114 .eq 133 117 := ⟨19, by decide +kernel, by decide, rfl⟩
theorem dX6_mayBeGiven_117 : nv_diload qX6_mayBeGiven 117 4 119 := Or.inl ⟨by decide +kernel, rfl⟩
theorem dX6_mayBeGiven_119 : nv_diload qX6_mayBeGiven 119 2 120 := Or.inr ⟨2, rfl, by decide +kernel, rfl⟩
theorem dX6_mayBeGiven_120 : nv_dic qX6_mayBeGiven 120 .eq 133 123 := ⟨13, by decide +kernel, by decide, rfl⟩
theorem dX6_mayBeGiven_123 : nv_diload qX6_mayBeGiven 123 4 125 := Or.inl ⟨by decide +kernel, rfl⟩
theorem dX6_mayBeGiven_125 : nv_diload qX6_mayBeGiven 125 3 126 := Or.inr ⟨3, rfl, by decide +kernel, rfl⟩
theorem dX6_mayBeGiven_126 : nv_dic qX6_mayBeGiven 126 .eq 133 129 := ⟨7, by decide +kernel, by decide, rfl⟩
theorem dX6_mayBeGiven_129 : nv_dk qX6_mayBeGiven 129 1 130 := Or.inl ⟨1, ⟨by decide +kernel, rfl⟩, by decide⟩
theorem dX6_mayBeGiven_130 : nv_dgo qX6_mayBeGiven 130 134 := ⟨4, by decide +kernel, by decide⟩
theorem dX6_mayBeGiven_133 : nv_dk qX6_mayBeGiven 133 0 134 := Or.inl ⟨0, ⟨by decide +kernel, rfl⟩, by decide⟩
theorem dX6_mayBeGiven_134 : decode qX6_mayBeGiven.2.1 134 = .ok (.ireturn, 1) := by decide +kernel
theorem dX6_mayBeGiven_135 : nv_dk qX6_mayBeGiven 135 0 136 := Or.inl ⟨0, ⟨by decide +kernel, rfl⟩, by decide⟩
theorem dX6_mayBeGiven_136 : decode qX6_mayBeGiven.2.1 136 = .ok (.ireturn, 1) := by decide +kernel
def fc_mayBeGiven (h : nv_Hp) (x1 : Int32) (x2 : Int32) (x3 : Int32) (x4 : Int32) : Option (Bool) := (if (fc_isPerson x3) = true then (if x1 = 3 then (Option.bind (fc_mayBePassed h x2) fun q3 => (if q3 = true then (if nv_inb x2 12 = true then (if (h (13 + x2.toNatClampNeg) 2) = x3 then some false else (if (fc_isFlag x4) = true then some true else some false)) else none) else some false)) else (if (fc_isPerson x2) = true then (if x2 = x3 then some false else (if x1 = 0 then some (fc_isFlag x4) else (if x1 = 1 then (if x4 = 0 then some true else some false) else (if x1 = 2 then (if (fc_isPerson x4) = true then (if x4 = x2 then some false else (if x4 = x3 then some false else some true)) else some false) else some false)))) else some false)) else some false)
set_option maxHeartbeats 2000000 in
theorem tc_mayBeGiven (G : nv_G) (h : nv_Hp) (x1 : Int32) (x2 : Int32) (x3 : Int32) (x4 : Int32) {r : Bool} (hf : (fc_mayBeGiven h x1 x2 x3 x4) = some r) : nv_Mt G 3 qX6_mayBeGiven [.ref 0, .int x1, .int x2, .int x3, .int x4] (nv_s h) (some (.int (nv_bi r)), nv_s h) := by
  refine nv_of (by decide +kernel) (fun ad => Nat.le_of_ble_eq_true rfl) (Nat.le_refl _) (Nat.le_of_ble_eq_true rfl) ?_
  show nv_E G 3 qX6_mayBeGiven 0 [some (.ref 0), some (.int x1), some (.int x2), some (.int x3), some (.int x4)] [] (nv_s h) (some (.int (nv_bi r)), nv_s h)
  unfold fc_mayBeGiven at hf
  refine nv_iL dX6_mayBeGiven_0 rfl ?_
  refine nv_cSi (tc_isPerson G h x3) dX6_mayBeGiven_1 lm_X6_70 y_qX6_isPerson rfl (by decide) rfl (Nat.le_of_ble_eq_true rfl) ?_
  refine nv_ifneB dX6_mayBeGiven_4 (fun c1 => ?_) (fun c1 => ?_)
  · replace hf := nv_ip c1 hf
    refine nv_iL dX6_mayBeGiven_9 rfl ?_
    refine nv_k dX6_mayBeGiven_10 ?_
    refine nv_icne dX6_mayBeGiven_11 (fun c2 => ?_) (fun c2 => ?_)
    · replace hf := nv_ip c2 hf
      refine nv_aL dX6_mayBeGiven_14 rfl ?_
      refine nv_iL dX6_mayBeGiven_15 rfl ?_
      obtain ⟨q3, hq3, hf⟩ := nv_bd hf
      refine nv_cVi (tc_mayBePassed G h x2 hq3) dX6_mayBeGiven_16 lm_X6_126 y_qX6_mayBePassed ko_0 rfl rfl (by decide) rfl (Nat.le_of_ble_eq_true rfl) ?_
      refine nv_ifeqB dX6_mayBeGiven_19 (fun c4 => ?_) (fun c4 => ?_)
      · replace hf := nv_ip c4 hf
        refine nv_aL dX6_mayBeGiven_22 rfl ?_
        refine nv_tR lf_X6_15 dX6_mayBeGiven_23 ko_0 rfl ?_
        refine nv_iL dX6_mayBeGiven_26 rfl ?_
        obtain ⟨g5, hf⟩ := nv_gd hf
        refine nv_aR dX6_mayBeGiven_27 kr_2 ⟨_, rfl⟩ g5 (nv_q1 _ _) ?_
        refine nv_gI lf_X6_92 dX6_mayBeGiven_28 (nv_o4 g5) rfl ?_
        refine nv_iL dX6_mayBeGiven_31 rfl ?_
        refine nv_iceq dX6_mayBeGiven_32 (fun c6 => ?_) (fun c6 => ?_)
        · replace hf := nv_ip c6 hf
          refine nv_k dX6_mayBeGiven_47 ?_
          obtain rfl := Option.some.inj hf
          exact nv_ireturnB (b := false) dX6_mayBeGiven_48 rfl
        · replace hf := nv_in c6 hf
          refine nv_iL dX6_mayBeGiven_35 rfl ?_
          refine nv_cSi (tc_isFlag G h x4) dX6_mayBeGiven_37 lm_X6_129 y_qX6_isFlag rfl (by decide) rfl (Nat.le_of_ble_eq_true rfl) ?_
          refine nv_ifeqB dX6_mayBeGiven_40 (fun c7 => ?_) (fun c7 => ?_)
          · replace hf := nv_ip c7 hf
            refine nv_k dX6_mayBeGiven_43 ?_
            refine nv_goto dX6_mayBeGiven_44 ?_
            obtain rfl := Option.some.inj hf
            exact nv_ireturnB (b := true) dX6_mayBeGiven_48 rfl
          · replace hf := nv_in c7 hf
            refine nv_k dX6_mayBeGiven_47 ?_
            obtain rfl := Option.some.inj hf
            exact nv_ireturnB (b := false) dX6_mayBeGiven_48 rfl
      · replace hf := nv_in c4 hf
        refine nv_k dX6_mayBeGiven_47 ?_
        obtain rfl := Option.some.inj hf
        exact nv_ireturnB (b := false) dX6_mayBeGiven_48 rfl
    · replace hf := nv_in c2 hf
      refine nv_iL dX6_mayBeGiven_49 rfl ?_
      refine nv_cSi (tc_isPerson G h x2) dX6_mayBeGiven_50 lm_X6_70 y_qX6_isPerson rfl (by decide) rfl (Nat.le_of_ble_eq_true rfl) ?_
      refine nv_ifeqB dX6_mayBeGiven_53 (fun c8 => ?_) (fun c8 => ?_)
      · replace hf := nv_ip c8 hf
        refine nv_iL dX6_mayBeGiven_56 rfl ?_
        refine nv_iL dX6_mayBeGiven_57 rfl ?_
        refine nv_icne dX6_mayBeGiven_58 (fun c9 => ?_) (fun c9 => ?_)
        · replace hf := nv_ip c9 hf
          refine nv_k dX6_mayBeGiven_61 ?_
          obtain rfl := Option.some.inj hf
          exact nv_ireturnB (b := false) dX6_mayBeGiven_62 rfl
        · replace hf := nv_in c9 hf
          refine nv_iL dX6_mayBeGiven_63 rfl ?_
          by_cases c10 : x1 = 0
          · replace hf := nv_ip c10 hf
            refine nv_switch (tgt := 92) (swX6_mayBeGiven_64_0 _ c10) ?_
            refine nv_iL dX6_mayBeGiven_92 rfl ?_
            refine nv_cSi (tc_isFlag G h x4) dX6_mayBeGiven_94 lm_X6_129 y_qX6_isFlag rfl (by decide) rfl (Nat.le_of_ble_eq_true rfl) ?_
            obtain rfl := Option.some.inj hf
            exact nv_ireturnB (b := (fc_isFlag x4)) dX6_mayBeGiven_97 rfl
          · replace hf := nv_in c10 hf
            by_cases c11 : x1 = 1
            · replace hf := nv_ip c11 hf
              refine nv_switch (tgt := 98) (swX6_mayBeGiven_64_1 _ c11) ?_
              refine nv_iL dX6_mayBeGiven_98 rfl ?_
              refine nv_ifne dX6_mayBeGiven_100 (fun c12 => ?_) (fun c12 => ?_)
              · replace hf := nv_ip c12 hf
                refine nv_k dX6_mayBeGiven_103 ?_
                refine nv_goto dX6_mayBeGiven_104 ?_
                obtain rfl := Option.some.inj hf
                exact nv_ireturnB (b := true) dX6_mayBeGiven_108 rfl
              · replace hf := nv_in c12 hf
                refine nv_k dX6_mayBeGiven_107 ?_
                obtain rfl := Option.some.inj hf
                exact nv_ireturnB (b := false) dX6_mayBeGiven_108 rfl
            · replace hf := nv_in c11 hf
              by_cases c13 : x1 = 2
              · replace hf := nv_ip c13 hf
                refine nv_switch (tgt := 109) (swX6_mayBeGiven_64_2 _ c13) ?_
                refine nv_iL dX6_mayBeGiven_109 rfl ?_
                refine nv_cSi (tc_isPerson G h x4) dX6_mayBeGiven_111 lm_X6_70 y_qX6_isPerson rfl (by decide) rfl (Nat.le_of_ble_eq_true rfl) ?_
                refine nv_ifeqB dX6_mayBeGiven_114 (fun c14 => ?_) (fun c14 => ?_)
                · replace hf := nv_ip c14 hf
                  refine nv_iL dX6_mayBeGiven_117 rfl ?_
                  refine nv_iL dX6_mayBeGiven_119 rfl ?_
                  refine nv_iceq dX6_mayBeGiven_120 (fun c15 => ?_) (fun c15 => ?_)
                  · replace hf := nv_ip c15 hf
                    refine nv_k dX6_mayBeGiven_133 ?_
                    obtain rfl := Option.some.inj hf
                    exact nv_ireturnB (b := false) dX6_mayBeGiven_134 rfl
                  · replace hf := nv_in c15 hf
                    refine nv_iL dX6_mayBeGiven_123 rfl ?_
                    refine nv_iL dX6_mayBeGiven_125 rfl ?_
                    refine nv_iceq dX6_mayBeGiven_126 (fun c16 => ?_) (fun c16 => ?_)
                    · replace hf := nv_ip c16 hf
                      refine nv_k dX6_mayBeGiven_133 ?_
                      obtain rfl := Option.some.inj hf
                      exact nv_ireturnB (b := false) dX6_mayBeGiven_134 rfl
                    · replace hf := nv_in c16 hf
                      refine nv_k dX6_mayBeGiven_129 ?_
                      refine nv_goto dX6_mayBeGiven_130 ?_
                      obtain rfl := Option.some.inj hf
                      exact nv_ireturnB (b := true) dX6_mayBeGiven_134 rfl
                · replace hf := nv_in c14 hf
                  refine nv_k dX6_mayBeGiven_133 ?_
                  obtain rfl := Option.some.inj hf
                  exact nv_ireturnB (b := false) dX6_mayBeGiven_134 rfl
              · replace hf := nv_in c13 hf
                refine nv_switch (tgt := 135) (swX6_mayBeGiven_64_d _ c10 c11 c13) ?_
                refine nv_k dX6_mayBeGiven_135 ?_
                obtain rfl := Option.some.inj hf
                exact nv_ireturnB (b := false) dX6_mayBeGiven_136 rfl
      · replace hf := nv_in c8 hf
        refine nv_k dX6_mayBeGiven_61 ?_
        obtain rfl := Option.some.inj hf
        exact nv_ireturnB (b := false) dX6_mayBeGiven_62 rfl
  · replace hf := nv_in c1 hf
    refine nv_k dX6_mayBeGiven_7 ?_
    obtain rfl := Option.some.inj hf
    exact nv_ireturnB (b := false) dX6_mayBeGiven_8 rfl
/-! WhoseName.isAmount -/
theorem dX6_isAmount_0 : nv_diload qX6_isAmount 0 0 1 := Or.inr ⟨0, rfl, by decide +kernel, rfl⟩
theorem dX6_isAmount_1 : nv_dk qX6_isAmount 1 0 2 := Or.inl ⟨0, ⟨by decide +kernel, rfl⟩, by decide⟩
theorem dX6_isAmount_2 : nv_dk qX6_isAmount 2 999 5 := Or.inr (Or.inr ⟨999, ⟨by decide +kernel, rfl⟩, by decide⟩)
theorem dX6_isAmount_5 : nv_dc qX6_isAmount 5 (.invokestatic 74) 3 8 := ⟨by decide +kernel, rfl⟩
theorem dX6_isAmount_8 : decode qX6_isAmount.2.1 8 = .ok (.ireturn, 1) := by decide +kernel
def fc_isAmount (x0 : Int32) : Bool := (fc_isWithin x0 0 999)
set_option maxHeartbeats 2000000 in
theorem tc_isAmount (G : nv_G) (h : nv_Hp) (x0 : Int32) : nv_Mt G 1 qX6_isAmount [.int x0] (nv_s h) (some (.int (nv_bi (fc_isAmount x0))), nv_s h) := by
  refine nv_of (by decide +kernel) (fun ad => Nat.le_of_ble_eq_true rfl) (Nat.le_refl _) (Nat.le_of_ble_eq_true rfl) ?_
  show nv_E G 1 qX6_isAmount 0 [some (.int x0)] [] (nv_s h) (some (.int (nv_bi (fc_isAmount x0))), nv_s h)
  generalize hf : (fc_isAmount x0) = r
  unfold fc_isAmount at hf
  refine nv_iL dX6_isAmount_0 rfl ?_
  refine nv_k dX6_isAmount_1 ?_
  refine nv_k dX6_isAmount_2 ?_
  refine nv_cSi (tc_isWithin G h x0 0 999) dX6_isAmount_5 lm_X6_74 y_qX6_isWithin rfl (by decide) rfl (Nat.le_of_ble_eq_true rfl) ?_
  subst hf
  exact nv_ireturnB (b := (fc_isWithin x0 0 999)) dX6_isAmount_8 rfl
/-! WhoseName.isDay -/
theorem dX6_isDay_0 : nv_diload qX6_isDay 0 0 1 := Or.inr ⟨0, rfl, by decide +kernel, rfl⟩
theorem dX6_isDay_1 : nv_dk qX6_isDay 1 0 2 := Or.inl ⟨0, ⟨by decide +kernel, rfl⟩, by decide⟩
theorem dX6_isDay_2 : nv_dk qX6_isDay 2 99 4 := Or.inr (Or.inl ⟨99, ⟨by decide +kernel, rfl⟩, by decide⟩)
theorem dX6_isDay_4 : nv_dc qX6_isDay 4 (.invokestatic 74) 3 7 := ⟨by decide +kernel, rfl⟩
theorem dX6_isDay_7 : decode qX6_isDay.2.1 7 = .ok (.ireturn, 1) := by decide +kernel
def fc_isDay (x0 : Int32) : Bool := (fc_isWithin x0 0 99)
set_option maxHeartbeats 2000000 in
theorem tc_isDay (G : nv_G) (h : nv_Hp) (x0 : Int32) : nv_Mt G 1 qX6_isDay [.int x0] (nv_s h) (some (.int (nv_bi (fc_isDay x0))), nv_s h) := by
  refine nv_of (by decide +kernel) (fun ad => Nat.le_of_ble_eq_true rfl) (Nat.le_refl _) (Nat.le_of_ble_eq_true rfl) ?_
  show nv_E G 1 qX6_isDay 0 [some (.int x0)] [] (nv_s h) (some (.int (nv_bi (fc_isDay x0))), nv_s h)
  generalize hf : (fc_isDay x0) = r
  unfold fc_isDay at hf
  refine nv_iL dX6_isDay_0 rfl ?_
  refine nv_k dX6_isDay_1 ?_
  refine nv_k dX6_isDay_2 ?_
  refine nv_cSi (tc_isWithin G h x0 0 99) dX6_isDay_4 lm_X6_74 y_qX6_isWithin rfl (by decide) rfl (Nat.le_of_ble_eq_true rfl) ?_
  subst hf
  exact nv_ireturnB (b := (fc_isWithin x0 0 99)) dX6_isDay_7 rfl
/-! WhoseName.isScope -/
theorem dX6_isScope_0 : nv_diload qX6_isScope 0 0 1 := Or.inr ⟨0, rfl, by decide +kernel, rfl⟩
theorem dX6_isScope_1 : nv_dk qX6_isScope 1 1 2 := Or.inl ⟨1, ⟨by decide +kernel, rfl⟩, by decide⟩
theorem dX6_isScope_2 : nv_dk qX6_isScope 2 15 4 := Or.inr (Or.inl ⟨15, ⟨by decide +kernel, rfl⟩, by decide⟩)
theorem dX6_isScope_4 : nv_dc qX6_isScope 4 (.invokestatic 74) 3 7 := ⟨by decide +kernel, rfl⟩
theorem dX6_isScope_7 : nv_dif qX6_isScope 7 .eq 40 10 := ⟨33, by decide +kernel, by decide, rfl⟩
theorem dX6_isScope_10 : nv_diload qX6_isScope 10 1 11 := Or.inr ⟨1, rfl, by decide +kernel, rfl⟩
theorem dX6_isScope_11 : nv_dc qX6_isScope 11 (.invokestatic 132) 3 14 := ⟨by decide +kernel, rfl⟩
theorem dX6_isScope_14 : nv_dif qX6_isScope 14 .eq 40 17 := ⟨26, by decide +kernel, by decide, rfl⟩
theorem dX6_isScope_17 : nv_diload qX6_isScope 17 2 18 := Or.inr ⟨2, rfl, by decide +kernel, rfl⟩
theorem dX6_isScope_18 : nv_dc qX6_isScope 18 (.invokestatic 135) 3 21 := ⟨by decide +kernel, rfl⟩
theorem dX6_isScope_21 : nv_dif qX6_isScope 21 .eq 40 24 := ⟨19, by decide +kernel, by decide, rfl⟩
theorem dX6_isScope_24 : nv_diload qX6_isScope 24 3 25 := Or.inr ⟨3, rfl, by decide +kernel, rfl⟩
theorem dX6_isScope_25 : nv_dc qX6_isScope 25 (.invokestatic 135) 3 28 := ⟨by decide +kernel, rfl⟩
theorem dX6_isScope_28 : nv_dif qX6_isScope 28 .eq 40 31 := ⟨12, by decide +kernel, by decide, rfl⟩
theorem dX6_isScope_31 : nv_diload qX6_isScope 31 2 32 := Or.inr ⟨2, rfl, by decide +kernel, rfl⟩
theorem dX6_isScope_32 : nv_diload qX6_isScope 32 3 33 := Or.inr ⟨3, rfl, by decide +kernel, rfl⟩
theorem dX6_isScope_33 : nv_dic qX6_isScope 33 .gt 40 36 := ⟨7, by decide +kernel, by decide, rfl⟩
theorem dX6_isScope_36 : nv_dk qX6_isScope 36 1 37 := Or.inl ⟨1, ⟨by decide +kernel, rfl⟩, by decide⟩
theorem dX6_isScope_37 : nv_dgo qX6_isScope 37 41 := ⟨4, by decide +kernel, by decide⟩
theorem dX6_isScope_40 : nv_dk qX6_isScope 40 0 41 := Or.inl ⟨0, ⟨by decide +kernel, rfl⟩, by decide⟩
theorem dX6_isScope_41 : decode qX6_isScope.2.1 41 = .ok (.ireturn, 1) := by decide +kernel
def fc_isScope (x0 : Int32) (x1 : Int32) (x2 : Int32) (x3 : Int32) : Bool := (if (fc_isWithin x0 1 15) = true then (if (fc_isAmount x1) = true then (if (fc_isDay x2) = true then (if (fc_isDay x3) = true then (if x3 < x2 then false else true) else false) else false) else false) else false)
set_option maxHeartbeats 2000000 in
theorem tc_isScope (G : nv_G) (h : nv_Hp) (x0 : Int32) (x1 : Int32) (x2 : Int32) (x3 : Int32) : nv_Mt G 2 qX6_isScope [.int x0, .int x1, .int x2, .int x3] (nv_s h) (some (.int (nv_bi (fc_isScope x0 x1 x2 x3))), nv_s h) := by
  refine nv_of (by decide +kernel) (fun ad => Nat.le_of_ble_eq_true rfl) (Nat.le_refl _) (Nat.le_of_ble_eq_true rfl) ?_
  show nv_E G 2 qX6_isScope 0 [some (.int x0), some (.int x1), some (.int x2), some (.int x3)] [] (nv_s h) (some (.int (nv_bi (fc_isScope x0 x1 x2 x3))), nv_s h)
  generalize hf : (fc_isScope x0 x1 x2 x3) = r
  unfold fc_isScope at hf
  refine nv_iL dX6_isScope_0 rfl ?_
  refine nv_k dX6_isScope_1 ?_
  refine nv_k dX6_isScope_2 ?_
  refine nv_cSi (tc_isWithin G h x0 1 15) dX6_isScope_4 lm_X6_74 y_qX6_isWithin rfl (by decide) rfl (Nat.le_of_ble_eq_true rfl) ?_
  refine nv_ifeqB dX6_isScope_7 (fun c1 => ?_) (fun c1 => ?_)
  · replace hf := nv_ip c1 hf
    refine nv_iL dX6_isScope_10 rfl ?_
    refine nv_cSi (tc_isAmount G h x1) dX6_isScope_11 lm_X6_132 y_qX6_isAmount rfl (by decide) rfl (Nat.le_of_ble_eq_true rfl) ?_
    refine nv_ifeqB dX6_isScope_14 (fun c2 => ?_) (fun c2 => ?_)
    · replace hf := nv_ip c2 hf
      refine nv_iL dX6_isScope_17 rfl ?_
      refine nv_cSi (tc_isDay G h x2) dX6_isScope_18 lm_X6_135 y_qX6_isDay rfl (by decide) rfl (Nat.le_of_ble_eq_true rfl) ?_
      refine nv_ifeqB dX6_isScope_21 (fun c3 => ?_) (fun c3 => ?_)
      · replace hf := nv_ip c3 hf
        refine nv_iL dX6_isScope_24 rfl ?_
        refine nv_cSi (tc_isDay G h x3) dX6_isScope_25 lm_X6_135 y_qX6_isDay rfl (by decide) rfl (Nat.le_of_ble_eq_true rfl) ?_
        refine nv_ifeqB dX6_isScope_28 (fun c4 => ?_) (fun c4 => ?_)
        · replace hf := nv_ip c4 hf
          refine nv_iL dX6_isScope_31 rfl ?_
          refine nv_iL dX6_isScope_32 rfl ?_
          refine nv_icgt dX6_isScope_33 (fun c5 => ?_) (fun c5 => ?_)
          · replace hf := nv_ip c5 hf
            refine nv_k dX6_isScope_40 ?_
            subst hf
            exact nv_ireturnB (b := false) dX6_isScope_41 rfl
          · replace hf := nv_in c5 hf
            refine nv_k dX6_isScope_36 ?_
            refine nv_goto dX6_isScope_37 ?_
            subst hf
            exact nv_ireturnB (b := true) dX6_isScope_41 rfl
        · replace hf := nv_in c4 hf
          refine nv_k dX6_isScope_40 ?_
          subst hf
          exact nv_ireturnB (b := false) dX6_isScope_41 rfl
      · replace hf := nv_in c3 hf
        refine nv_k dX6_isScope_40 ?_
        subst hf
        exact nv_ireturnB (b := false) dX6_isScope_41 rfl
    · replace hf := nv_in c2 hf
      refine nv_k dX6_isScope_40 ?_
      subst hf
      exact nv_ireturnB (b := false) dX6_isScope_41 rfl
  · replace hf := nv_in c1 hf
    refine nv_k dX6_isScope_40 ?_
    subst hf
    exact nv_ireturnB (b := false) dX6_isScope_41 rfl
/-! WhoseName.setSource -/
theorem dX6_setSource_0 : nv_daload qX6_setSource 0 1 1 := Or.inr ⟨1, rfl, by decide +kernel, rfl⟩
theorem dX6_setSource_1 : nv_dc qX6_setSource 1 (.getfield 89) 3 4 := ⟨by decide +kernel, rfl⟩
theorem dX6_setSource_4 : nv_dk qX6_setSource 4 3 5 := Or.inl ⟨3, ⟨by decide +kernel, rfl⟩, by decide⟩
theorem dX6_setSource_5 : nv_dic qX6_setSource 5 .ne 52 8 := ⟨47, by decide +kernel, by decide, rfl⟩
theorem dX6_setSource_8 : nv_daload qX6_setSource 8 0 9 := Or.inr ⟨0, rfl, by decide +kernel, rfl⟩
theorem dX6_setSource_9 : nv_diload qX6_setSource 9 2 10 := Or.inr ⟨2, rfl, by decide +kernel, rfl⟩
theorem dX6_setSource_10 : nv_dc qX6_setSource 10 (.invokevirtual 114) 3 13 := ⟨by decide +kernel, rfl⟩
theorem dX6_setSource_13 : nv_dif qX6_setSource 13 .eq 52 16 := ⟨39, by decide +kernel, by decide, rfl⟩
theorem dX6_setSource_16 : nv_daload qX6_setSource 16 1 17 := Or.inr ⟨1, rfl, by decide +kernel, rfl⟩
theorem dX6_setSource_17 : nv_daload qX6_setSource 17 0 18 := Or.inr ⟨0, rfl, by decide +kernel, rfl⟩
theorem dX6_setSource_18 : nv_dc qX6_setSource 18 (.getfield 15) 3 21 := ⟨by decide +kernel, rfl⟩
theorem dX6_setSource_21 : nv_diload qX6_setSource 21 2 22 := Or.inr ⟨2, rfl, by decide +kernel, rfl⟩
theorem dX6_setSource_22 : nv_dc qX6_setSource 22 (.aaload) 1 23 := ⟨by decide +kernel, rfl⟩
theorem dX6_setSource_23 : nv_dc qX6_setSource 23 (.getfield 117) 3 26 := ⟨by decide +kernel, rfl⟩
theorem dX6_setSource_26 : nv_dc qX6_setSource 26 (.putfield 117) 3 29 := ⟨by decide +kernel, rfl⟩
theorem dX6_setSource_29 : nv_daload qX6_setSource 29 1 30 := Or.inr ⟨1, rfl, by decide +kernel, rfl⟩
theorem dX6_setSource_30 : nv_diload qX6_setSource 30 2 31 := Or.inr ⟨2, rfl, by decide +kernel, rfl⟩
theorem dX6_setSource_31 : nv_dc qX6_setSource 31 (.putfield 120) 3 34 := ⟨by decide +kernel, rfl⟩
theorem dX6_setSource_34 : nv_daload qX6_setSource 34 1 35 := Or.inr ⟨1, rfl, by decide +kernel, rfl⟩
theorem dX6_setSource_35 : nv_daload qX6_setSource 35 0 36 := Or.inr ⟨0, rfl, by decide +kernel, rfl⟩
theorem dX6_setSource_36 : nv_dc qX6_setSource 36 (.getfield 15) 3 39 := ⟨by decide +kernel, rfl⟩
theorem dX6_setSource_39 : nv_diload qX6_setSource 39 2 40 := Or.inr ⟨2, rfl, by decide +kernel, rfl⟩
theorem dX6_setSource_40 : nv_dc qX6_setSource 40 (.aaload) 1 41 := ⟨by decide +kernel, rfl⟩
theorem dX6_setSource_41 : nv_dc qX6_setSource 41 (.getfield 123) 3 44 := ⟨by decide +kernel, rfl⟩
theorem dX6_setSource_44 : nv_dk qX6_setSource 44 1 45 := Or.inl ⟨1, ⟨by decide +kernel, rfl⟩, by decide⟩
theorem dX6_setSource_45 : nv_dc qX6_setSource 45 (.iadd) 1 46 := ⟨by decide +kernel, rfl⟩
theorem dX6_setSource_46 : nv_dc qX6_setSource 46 (.putfield 123) 3 49 := ⟨by decide +kernel, rfl⟩
theorem dX6_setSource_49 : nv_dgo qX6_setSource 49 67 := ⟨18, by decide +kernel, by decide⟩
theorem dX6_setSource_52 : nv_daload qX6_setSource 52 1 53 := Or.inr ⟨1, rfl, by decide +kernel, rfl⟩
theorem dX6_setSource_53 : nv_diload qX6_setSource 53 2 54 := Or.inr ⟨2, rfl, by decide +kernel, rfl⟩
theorem dX6_setSource_54 : nv_dc qX6_setSource 54 (.putfield 117) 3 57 := ⟨by decide +kernel, rfl⟩
theorem dX6_setSource_57 : nv_daload qX6_setSource 57 1 58 := Or.inr ⟨1, rfl, by decide +kernel, rfl⟩
theorem dX6_setSource_58 : nv_dk qX6_setSource 58 (-1) 59 := Or.inl ⟨(-1), ⟨by decide +kernel, rfl⟩, by decide⟩
theorem dX6_setSource_59 : nv_dc qX6_setSource 59 (.putfield 120) 3 62 := ⟨by decide +kernel, rfl⟩
theorem dX6_setSource_62 : nv_daload qX6_setSource 62 1 63 := Or.inr ⟨1, rfl, by decide +kernel, rfl⟩
theorem dX6_setSource_63 : nv_dk qX6_setSource 63 0 64 := Or.inl ⟨0, ⟨by decide +kernel, rfl⟩, by decide⟩
theorem dX6_setSource_64 : nv_dc qX6_setSource 64 (.putfield 123) 3 67 := ⟨by decide +kernel, rfl⟩
theorem dX6_setSource_67 : decode qX6_setSource.2.1 67 = .ok (.return_, 1) := by decide +kernel
def fc_setSource_52 (h : nv_Hp) (k1 : Nat) (x2 : Int32)   : Option (nv_Hp) := (nv_lt (nv_up h k1 1 x2) fun h1 => (nv_lt (nv_up h1 k1 8 (-1)) fun h2 => (nv_lt (nv_up h2 k1 9 0) fun h3 => some h3)))
set_option maxHeartbeats 2000000 in
theorem tc_setSource_52 (G : nv_G) (h : nv_Hp) (k1 : Nat) (hk1 : nv_O 4 k1) (x2 : Int32)   (r : nv_Hp) (hf : fc_setSource_52 h k1 x2 = some r) : nv_E G 2 qX6_setSource 52 [some (.ref 0), some (.ref k1), some (.int x2)] [] (nv_s h) (none, nv_s r) := by
  unfold fc_setSource_52 at hf
  refine nv_aL dX6_setSource_52 rfl ?_
  refine nv_iL dX6_setSource_53 rfl ?_
  refine nv_pI lp_X6_117 dX6_setSource_54 hk1 rfl ?_
  obtain ⟨h1, eh1, hf⟩ := nv_ltX hf
  rw [eh1]
  clear eh1
  refine nv_aL dX6_setSource_57 rfl ?_
  refine nv_k dX6_setSource_58 ?_
  refine nv_pI lp_X6_120 dX6_setSource_59 hk1 rfl ?_
  obtain ⟨h2, eh2, hf⟩ := nv_ltX hf
  rw [eh2]
  clear eh2
  refine nv_aL dX6_setSource_62 rfl ?_
  refine nv_k dX6_setSource_63 ?_
  refine nv_pI lp_X6_123 dX6_setSource_64 hk1 rfl ?_
  obtain ⟨h3, eh3, hf⟩ := nv_ltX hf
  rw [eh3]
  clear eh3
  obtain rfl := Option.some.inj hf
  exact nv_return dX6_setSource_67 rfl
def fc_setSource (h : nv_Hp) (k1 : Nat) (x2 : Int32) : Option (nv_Hp) := (if (h k1 0) = 3 then (if (fc_isLeave h x2) = true then (if nv_inb x2 12 = true then (nv_lt (nv_up h k1 1 (h (13 + x2.toNatClampNeg) 1)) fun h4 => (nv_lt (nv_up h4 k1 8 x2) fun h5 => (nv_lt (nv_up h5 k1 9 ((h5 (13 + x2.toNatClampNeg) 9) + 1)) fun h6 => some h6))) else none) else (fc_setSource_52 h k1 x2)) else (fc_setSource_52 h k1 x2))
set_option maxHeartbeats 2000000 in
theorem tc_setSource (G : nv_G) (h : nv_Hp) (k1 : Nat) (hk1 : nv_O 4 k1) (x2 : Int32) {r : nv_Hp} (hf : (fc_setSource h k1 x2) = some r) : nv_Mt G 2 qX6_setSource [.ref 0, .ref k1, .int x2] (nv_s h) (none, nv_s r) := by
  refine nv_of (by decide +kernel) (fun ad => Nat.le_of_ble_eq_true rfl) (Nat.le_refl _) (Nat.le_of_ble_eq_true rfl) ?_
  show nv_E G 2 qX6_setSource 0 [some (.ref 0), some (.ref k1), some (.int x2)] [] (nv_s h) (none, nv_s r)
  unfold fc_setSource at hf
  refine nv_aL dX6_setSource_0 rfl ?_
  refine nv_gI lf_X6_89 dX6_setSource_1 hk1 rfl ?_
  refine nv_k dX6_setSource_4 ?_
  refine nv_icne dX6_setSource_5 (fun c1 => ?_) (fun c1 => ?_)
  · replace hf := nv_ip c1 hf
    refine nv_aL dX6_setSource_8 rfl ?_
    refine nv_iL dX6_setSource_9 rfl ?_
    refine nv_cVi (tc_isLeave G h x2) dX6_setSource_10 lm_X6_114 y_qX6_isLeave ko_0 rfl rfl (by decide) rfl (Nat.le_of_ble_eq_true rfl) ?_
    refine nv_ifeqB dX6_setSource_13 (fun c2 => ?_) (fun c2 => ?_)
    · replace hf := nv_ip c2 hf
      refine nv_aL dX6_setSource_16 rfl ?_
      refine nv_aL dX6_setSource_17 rfl ?_
      refine nv_tR lf_X6_15 dX6_setSource_18 ko_0 rfl ?_
      refine nv_iL dX6_setSource_21 rfl ?_
      obtain ⟨g3, hf⟩ := nv_gd hf
      refine nv_aR dX6_setSource_22 kr_2 ⟨_, rfl⟩ g3 (nv_q1 _ _) ?_
      refine nv_gI lf_X6_117 dX6_setSource_23 (nv_o4 g3) rfl ?_
      refine nv_pI lp_X6_117 dX6_setSource_26 hk1 rfl ?_
      obtain ⟨h4, eh4, hf⟩ := nv_ltX hf
      rw [eh4]
      clear eh4
      refine nv_aL dX6_setSource_29 rfl ?_
      refine nv_iL dX6_setSource_30 rfl ?_
      refine nv_pI lp_X6_120 dX6_setSource_31 hk1 rfl ?_
      obtain ⟨h5, eh5, hf⟩ := nv_ltX hf
      rw [eh5]
      clear eh5
      refine nv_aL dX6_setSource_34 rfl ?_
      refine nv_aL dX6_setSource_35 rfl ?_
      refine nv_tR lf_X6_15 dX6_setSource_36 ko_0 rfl ?_
      refine nv_iL dX6_setSource_39 rfl ?_
      refine nv_aR dX6_setSource_40 kr_2 ⟨_, rfl⟩ g3 (nv_q1 _ _) ?_
      refine nv_gI lf_X6_123 dX6_setSource_41 (nv_o4 g3) rfl ?_
      refine nv_k dX6_setSource_44 ?_
      refine nv_iadd dX6_setSource_45 ?_
      refine nv_pI lp_X6_123 dX6_setSource_46 hk1 rfl ?_
      obtain ⟨h6, eh6, hf⟩ := nv_ltX hf
      rw [eh6]
      clear eh6
      refine nv_goto dX6_setSource_49 ?_
      obtain rfl := Option.some.inj hf
      exact nv_return dX6_setSource_67 rfl
    · replace hf := nv_in c2 hf
      exact tc_setSource_52 G _ _ hk1 _ _ hf
  · replace hf := nv_in c1 hf
    exact tc_setSource_52 G _ _ hk1 _ _ hf
/-! WhoseName.leave -/
theorem dX6_leave_0 : nv_daload qX6_leave 0 0 1 := Or.inr ⟨0, rfl, by decide +kernel, rfl⟩
theorem dX6_leave_1 : nv_diload qX6_leave 1 1 2 := Or.inr ⟨1, rfl, by decide +kernel, rfl⟩
theorem dX6_leave_2 : nv_diload qX6_leave 2 2 3 := Or.inr ⟨2, rfl, by decide +kernel, rfl⟩
theorem dX6_leave_3 : nv_diload qX6_leave 3 3 4 := Or.inr ⟨3, rfl, by decide +kernel, rfl⟩
theorem dX6_leave_4 : nv_diload qX6_leave 4 4 6 := Or.inl ⟨by decide +kernel, rfl⟩
theorem dX6_leave_6 : nv_dc qX6_leave 6 (.invokevirtual 78) 3 9 := ⟨by decide +kernel, rfl⟩
theorem dX6_leave_9 : nv_dif qX6_leave 9 .eq 26 12 := ⟨17, by decide +kernel, by decide, rfl⟩
theorem dX6_leave_12 : nv_diload qX6_leave 12 5 14 := Or.inl ⟨by decide +kernel, rfl⟩
theorem dX6_leave_14 : nv_diload qX6_leave 14 6 16 := Or.inl ⟨by decide +kernel, rfl⟩
theorem dX6_leave_16 : nv_diload qX6_leave 16 7 18 := Or.inl ⟨by decide +kernel, rfl⟩
theorem dX6_leave_18 : nv_diload qX6_leave 18 8 20 := Or.inl ⟨by decide +kernel, rfl⟩
theorem dX6_leave_20 : nv_dc qX6_leave 20 (.invokestatic 82) 3 23 := ⟨by decide +kernel, rfl⟩
theorem dX6_leave_23 : nv_dif qX6_leave 23 .ne 29 26 := ⟨6, by decide +kernel, by decide, rfl⟩
theorem dX6_leave_26 : nv_dk qX6_leave 26 (-2) 28 := Or.inr (Or.inl ⟨(-2), ⟨by decide +kernel, rfl⟩, by decide⟩)
theorem dX6_leave_28 : decode qX6_leave.2.1 28 = .ok (.ireturn, 1) := by decide +kernel
theorem dX6_leave_29 : nv_daload qX6_leave 29 0 30 := Or.inr ⟨0, rfl, by decide +kernel, rfl⟩
theorem dX6_leave_30 : nv_dc qX6_leave 30 (.getfield 85) 3 33 := ⟨by decide +kernel, rfl⟩
theorem dX6_leave_33 : nv_dk qX6_leave 33 12 35 := Or.inr (Or.inl ⟨12, ⟨by decide +kernel, rfl⟩, by decide⟩)
theorem dX6_leave_35 : nv_dic qX6_leave 35 .lt 41 38 := ⟨6, by decide +kernel, by decide, rfl⟩
theorem dX6_leave_38 : nv_dk qX6_leave 38 (-4) 40 := Or.inr (Or.inl ⟨(-4), ⟨by decide +kernel, rfl⟩, by decide⟩)
theorem dX6_leave_40 : decode qX6_leave.2.1 40 = .ok (.ireturn, 1) := by decide +kernel
theorem dX6_leave_41 : nv_daload qX6_leave 41 0 42 := Or.inr ⟨0, rfl, by decide +kernel, rfl⟩
theorem dX6_leave_42 : nv_dc qX6_leave 42 (.getfield 15) 3 45 := ⟨by decide +kernel, rfl⟩
theorem dX6_leave_45 : nv_daload qX6_leave 45 0 46 := Or.inr ⟨0, rfl, by decide +kernel, rfl⟩
theorem dX6_leave_46 : nv_dc qX6_leave 46 (.getfield 85) 3 49 := ⟨by decide +kernel, rfl⟩
theorem dX6_leave_49 : nv_dc qX6_leave 49 (.aaload) 1 50 := ⟨by decide +kernel, rfl⟩
theorem dX6_leave_50 : nv_dastore qX6_leave 50 9 52 := Or.inl ⟨by decide +kernel, rfl⟩
theorem dX6_leave_52 : nv_daload qX6_leave 52 9 54 := Or.inl ⟨by decide +kernel, rfl⟩
theorem dX6_leave_54 : nv_diload qX6_leave 54 1 55 := Or.inr ⟨1, rfl, by decide +kernel, rfl⟩
theorem dX6_leave_55 : nv_dc qX6_leave 55 (.putfield 89) 3 58 := ⟨by decide +kernel, rfl⟩
theorem dX6_leave_58 : nv_daload qX6_leave 58 9 60 := Or.inl ⟨by decide +kernel, rfl⟩
theorem dX6_leave_60 : nv_diload qX6_leave 60 3 61 := Or.inr ⟨3, rfl, by decide +kernel, rfl⟩
theorem dX6_leave_61 : nv_dc qX6_leave 61 (.putfield 92) 3 64 := ⟨by decide +kernel, rfl⟩
theorem dX6_leave_64 : nv_daload qX6_leave 64 9 66 := Or.inl ⟨by decide +kernel, rfl⟩
theorem dX6_leave_66 : nv_diload qX6_leave 66 4 68 := Or.inl ⟨by decide +kernel, rfl⟩
theorem dX6_leave_68 : nv_dc qX6_leave 68 (.putfield 95) 3 71 := ⟨by decide +kernel, rfl⟩
theorem dX6_leave_71 : nv_daload qX6_leave 71 9 73 := Or.inl ⟨by decide +kernel, rfl⟩
theorem dX6_leave_73 : nv_diload qX6_leave 73 5 75 := Or.inl ⟨by decide +kernel, rfl⟩
theorem dX6_leave_75 : nv_dc qX6_leave 75 (.putfield 98) 3 78 := ⟨by decide +kernel, rfl⟩
theorem dX6_leave_78 : nv_daload qX6_leave 78 9 80 := Or.inl ⟨by decide +kernel, rfl⟩
theorem dX6_leave_80 : nv_diload qX6_leave 80 6 82 := Or.inl ⟨by decide +kernel, rfl⟩
theorem dX6_leave_82 : nv_dc qX6_leave 82 (.putfield 101) 3 85 := ⟨by decide +kernel, rfl⟩
theorem dX6_leave_85 : nv_daload qX6_leave 85 9 87 := Or.inl ⟨by decide +kernel, rfl⟩
theorem dX6_leave_87 : nv_diload qX6_leave 87 7 89 := Or.inl ⟨by decide +kernel, rfl⟩
theorem dX6_leave_89 : nv_dc qX6_leave 89 (.putfield 104) 3 92 := ⟨by decide +kernel, rfl⟩
theorem dX6_leave_92 : nv_daload qX6_leave 92 9 94 := Or.inl ⟨by decide +kernel, rfl⟩
theorem dX6_leave_94 : nv_diload qX6_leave 94 8 96 := Or.inl ⟨by decide +kernel, rfl⟩
theorem dX6_leave_96 : nv_dc qX6_leave 96 (.putfield 107) 3 99 := ⟨by decide +kernel, rfl⟩
theorem dX6_leave_99 : nv_daload qX6_leave 99 0 100 := Or.inr ⟨0, rfl, by decide +kernel, rfl⟩
theorem dX6_leave_100 : nv_daload qX6_leave 100 9 102 := Or.inl ⟨by decide +kernel, rfl⟩
theorem dX6_leave_102 : nv_diload qX6_leave 102 2 103 := Or.inr ⟨2, rfl, by decide +kernel, rfl⟩
theorem dX6_leave_103 : nv_dc qX6_leave 103 (.invokevirtual 110) 3 106 := ⟨by decide +kernel, rfl⟩
theorem dX6_leave_106 : nv_daload qX6_leave 106 0 107 := Or.inr ⟨0, rfl, by decide +kernel, rfl⟩
theorem dX6_leave_107 : nv_dc qX6_leave 107 (.dup) 1 108 := ⟨by decide +kernel, rfl⟩
theorem dX6_leave_108 : nv_dc qX6_leave 108 (.getfield 85) 3 111 := ⟨by decide +kernel, rfl⟩
theorem dX6_leave_111 : nv_dk qX6_leave 111 1 112 := Or.inl ⟨1, ⟨by decide +kernel, rfl⟩, by decide⟩
theorem dX6_leave_112 : nv_dc qX6_leave 112 (.iadd) 1 113 := ⟨by decide +kernel, rfl⟩
theorem dX6_leave_113 : nv_dc qX6_leave 113 (.putfield 85) 3 116 := ⟨by decide +kernel, rfl⟩
theorem dX6_leave_116 : nv_daload qX6_leave 116 0 117 := Or.inr ⟨0, rfl, by decide +kernel, rfl⟩
theorem dX6_leave_117 : nv_dc qX6_leave 117 (.getfield 85) 3 120 := ⟨by decide +kernel, rfl⟩
theorem dX6_leave_120 : nv_dk qX6_leave 120 1 121 := Or.inl ⟨1, ⟨by decide +kernel, rfl⟩, by decide⟩
theorem dX6_leave_121 : nv_dc qX6_leave 121 (.isub) 1 122 := ⟨by decide +kernel, rfl⟩
theorem dX6_leave_122 : decode qX6_leave.2.1 122 = .ok (.ireturn, 1) := by decide +kernel
def fc_leave (h : nv_Hp) (x1 : Int32) (x2 : Int32) (x3 : Int32) (x4 : Int32) (x5 : Int32) (x6 : Int32) (x7 : Int32) (x8 : Int32) : Option (Int32 × nv_Hp) := (Option.bind (fc_mayBeGiven h x1 x2 x3 x4) fun q1 => (if q1 = true then (if (fc_isScope x5 x6 x7 x8) = true then (if (h 0 7) < 12 then (if nv_inb (h 0 7) 12 = true then (nv_lt (nv_up h (13 + (h 0 7).toNatClampNeg) 0 x1) fun h6 => (nv_lt (nv_up h6 (13 + (h 0 7).toNatClampNeg) 2 x3) fun h7 => (nv_lt (nv_up h7 (13 + (h 0 7).toNatClampNeg) 3 x4) fun h8 => (nv_lt (nv_up h8 (13 + (h 0 7).toNatClampNeg) 4 x5) fun h9 => (nv_lt (nv_up h9 (13 + (h 0 7).toNatClampNeg) 5 x6) fun h10 => (nv_lt (nv_up h10 (13 + (h 0 7).toNatClampNeg) 6 x7) fun h11 => (nv_lt (nv_up h11 (13 + (h 0 7).toNatClampNeg) 7 x8) fun h12 => (Option.bind (fc_setSource h12 (13 + (h 0 7).toNatClampNeg) x2) fun q13 => (nv_lt (nv_up q13 0 7 ((q13 0 7) + 1)) fun h14 => some (((h14 0 7) - 1), h14)))))))))) else none) else some ((-4), h)) else some ((-2), h)) else some ((-2), h)))
set_option maxHeartbeats 2000000 in
theorem tc_leave (G : nv_G) (h : nv_Hp) (x1 : Int32) (x2 : Int32) (x3 : Int32) (x4 : Int32) (x5 : Int32) (x6 : Int32) (x7 : Int32) (x8 : Int32) {r : Int32 × nv_Hp} (hf : (fc_leave h x1 x2 x3 x4 x5 x6 x7 x8) = some r) : nv_Mt G 4 qX6_leave [.ref 0, .int x1, .int x2, .int x3, .int x4, .int x5, .int x6, .int x7, .int x8] (nv_s h) (some (.int r.1), nv_s r.2) := by
  refine nv_of (by decide +kernel) (fun ad => Nat.le_of_ble_eq_true rfl) (Nat.le_refl _) (Nat.le_of_ble_eq_true rfl) ?_
  show nv_E G 4 qX6_leave 0 [some (.ref 0), some (.int x1), some (.int x2), some (.int x3), some (.int x4), some (.int x5), some (.int x6), some (.int x7), some (.int x8), none] [] (nv_s h) (some (.int r.1), nv_s r.2)
  unfold fc_leave at hf
  refine nv_aL dX6_leave_0 rfl ?_
  refine nv_iL dX6_leave_1 rfl ?_
  refine nv_iL dX6_leave_2 rfl ?_
  refine nv_iL dX6_leave_3 rfl ?_
  refine nv_iL dX6_leave_4 rfl ?_
  obtain ⟨q1, hq1, hf⟩ := nv_bd hf
  refine nv_cVi (tc_mayBeGiven G h x1 x2 x3 x4 hq1) dX6_leave_6 lm_X6_78 y_qX6_mayBeGiven ko_0 rfl rfl (by decide) rfl (Nat.le_of_ble_eq_true rfl) ?_
  refine nv_ifeqB dX6_leave_9 (fun c2 => ?_) (fun c2 => ?_)
  · replace hf := nv_ip c2 hf
    refine nv_iL dX6_leave_12 rfl ?_
    refine nv_iL dX6_leave_14 rfl ?_
    refine nv_iL dX6_leave_16 rfl ?_
    refine nv_iL dX6_leave_18 rfl ?_
    refine nv_cSi (tc_isScope G h x5 x6 x7 x8) dX6_leave_20 lm_X6_82 y_qX6_isScope rfl (by decide) rfl (Nat.le_of_ble_eq_true rfl) ?_
    refine nv_ifneB dX6_leave_23 (fun c3 => ?_) (fun c3 => ?_)
    · replace hf := nv_ip c3 hf
      refine nv_aL dX6_leave_29 rfl ?_
      refine nv_tI lf_X6_85 dX6_leave_30 ko_0 rfl ?_
      refine nv_k dX6_leave_33 ?_
      refine nv_iclt dX6_leave_35 (fun c4 => ?_) (fun c4 => ?_)
      · replace hf := nv_ip c4 hf
        refine nv_aL dX6_leave_41 rfl ?_
        refine nv_tR lf_X6_15 dX6_leave_42 ko_0 rfl ?_
        refine nv_aL dX6_leave_45 rfl ?_
        refine nv_tI lf_X6_85 dX6_leave_46 ko_0 rfl ?_
        obtain ⟨g5, hf⟩ := nv_gd hf
        refine nv_aR dX6_leave_49 kr_2 ⟨_, rfl⟩ g5 (nv_q1 _ _) ?_
        refine nv_aS dX6_leave_50 (by decide) rfl rfl ?_
        refine nv_aL dX6_leave_52 rfl ?_
        refine nv_iL dX6_leave_54 rfl ?_
        refine nv_pI lp_X6_89 dX6_leave_55 (nv_o4 g5) rfl ?_
        obtain ⟨h6, eh6, hf⟩ := nv_ltX hf
        rw [eh6]
        clear eh6
        refine nv_aL dX6_leave_58 rfl ?_
        refine nv_iL dX6_leave_60 rfl ?_
        refine nv_pI lp_X6_92 dX6_leave_61 (nv_o4 g5) rfl ?_
        obtain ⟨h7, eh7, hf⟩ := nv_ltX hf
        rw [eh7]
        clear eh7
        refine nv_aL dX6_leave_64 rfl ?_
        refine nv_iL dX6_leave_66 rfl ?_
        refine nv_pI lp_X6_95 dX6_leave_68 (nv_o4 g5) rfl ?_
        obtain ⟨h8, eh8, hf⟩ := nv_ltX hf
        rw [eh8]
        clear eh8
        refine nv_aL dX6_leave_71 rfl ?_
        refine nv_iL dX6_leave_73 rfl ?_
        refine nv_pI lp_X6_98 dX6_leave_75 (nv_o4 g5) rfl ?_
        obtain ⟨h9, eh9, hf⟩ := nv_ltX hf
        rw [eh9]
        clear eh9
        refine nv_aL dX6_leave_78 rfl ?_
        refine nv_iL dX6_leave_80 rfl ?_
        refine nv_pI lp_X6_101 dX6_leave_82 (nv_o4 g5) rfl ?_
        obtain ⟨h10, eh10, hf⟩ := nv_ltX hf
        rw [eh10]
        clear eh10
        refine nv_aL dX6_leave_85 rfl ?_
        refine nv_iL dX6_leave_87 rfl ?_
        refine nv_pI lp_X6_104 dX6_leave_89 (nv_o4 g5) rfl ?_
        obtain ⟨h11, eh11, hf⟩ := nv_ltX hf
        rw [eh11]
        clear eh11
        refine nv_aL dX6_leave_92 rfl ?_
        refine nv_iL dX6_leave_94 rfl ?_
        refine nv_pI lp_X6_107 dX6_leave_96 (nv_o4 g5) rfl ?_
        obtain ⟨h12, eh12, hf⟩ := nv_ltX hf
        rw [eh12]
        clear eh12
        refine nv_aL dX6_leave_99 rfl ?_
        refine nv_aL dX6_leave_100 rfl ?_
        refine nv_iL dX6_leave_102 rfl ?_
        obtain ⟨q13, hq13, hf⟩ := nv_bd hf
        refine nv_cVv (tc_setSource G h12 (13 + (h 0 7).toNatClampNeg) (nv_o4 g5) x2 hq13) dX6_leave_103 lm_X6_110 y_qX6_setSource ko_0 rfl rfl (by decide) rfl (Nat.le_of_ble_eq_true rfl) ?_
        refine nv_aL dX6_leave_106 rfl ?_
        refine nv_dup dX6_leave_107 rfl ?_
        refine nv_tI lf_X6_85 dX6_leave_108 ko_0 rfl ?_
        refine nv_k dX6_leave_111 ?_
        refine nv_iadd dX6_leave_112 ?_
        refine nv_tP lp_X6_85 dX6_leave_113 ko_0 rfl ?_
        obtain ⟨h14, eh14, hf⟩ := nv_ltX hf
        rw [eh14]
        clear eh14
        refine nv_aL dX6_leave_116 rfl ?_
        refine nv_tI lf_X6_85 dX6_leave_117 ko_0 rfl ?_
        refine nv_k dX6_leave_120 ?_
        refine nv_isub dX6_leave_121 ?_
        obtain rfl := Option.some.inj hf
        exact nv_ireturnI dX6_leave_122 rfl
      · replace hf := nv_in c4 hf
        refine nv_k dX6_leave_38 ?_
        obtain rfl := Option.some.inj hf
        exact nv_ireturnI dX6_leave_40 rfl
    · replace hf := nv_in c3 hf
      refine nv_k dX6_leave_26 ?_
      obtain rfl := Option.some.inj hf
      exact nv_ireturnI dX6_leave_28 rfl
  · replace hf := nv_in c2 hf
    refine nv_k dX6_leave_26 ?_
    obtain rfl := Option.some.inj hf
    exact nv_ireturnI dX6_leave_28 rfl
/-! WhoseName.back -/
theorem dX6_back_0 : nv_daload qX6_back 0 0 1 := Or.inr ⟨0, rfl, by decide +kernel, rfl⟩
theorem dX6_back_1 : nv_diload qX6_back 1 1 2 := Or.inr ⟨1, rfl, by decide +kernel, rfl⟩
theorem dX6_back_2 : nv_dc qX6_back 2 (.invokevirtual 114) 3 5 := ⟨by decide +kernel, rfl⟩
theorem dX6_back_5 : nv_dif qX6_back 5 .eq 22 8 := ⟨17, by decide +kernel, by decide, rfl⟩
theorem dX6_back_8 : nv_diload qX6_back 8 2 9 := Or.inr ⟨2, rfl, by decide +kernel, rfl⟩
theorem dX6_back_9 : nv_dc qX6_back 9 (.invokestatic 135) 3 12 := ⟨by decide +kernel, rfl⟩
theorem dX6_back_12 : nv_dif qX6_back 12 .eq 22 15 := ⟨10, by decide +kernel, by decide, rfl⟩
theorem dX6_back_15 : nv_diload qX6_back 15 3 16 := Or.inr ⟨3, rfl, by decide +kernel, rfl⟩
theorem dX6_back_16 : nv_dc qX6_back 16 (.invokestatic 70) 3 19 := ⟨by decide +kernel, rfl⟩
theorem dX6_back_19 : nv_dif qX6_back 19 .ne 25 22 := ⟨6, by decide +kernel, by decide, rfl⟩
theorem dX6_back_22 : nv_dk qX6_back 22 (-2) 24 := Or.inr (Or.inl ⟨(-2), ⟨by decide +kernel, rfl⟩, by decide⟩)
theorem dX6_back_24 : decode qX6_back.2.1 24 = .ok (.ireturn, 1) := by decide +kernel
theorem dX6_back_25 : nv_diload qX6_back 25 4 27 := Or.inl ⟨by decide +kernel, rfl⟩
theorem dX6_back_27 : nv_dk qX6_back 27 (-1) 28 := Or.inl ⟨(-1), ⟨by decide +kernel, rfl⟩, by decide⟩
theorem dX6_back_28 : nv_dic qX6_back 28 .eq 45 31 := ⟨17, by decide +kernel, by decide, rfl⟩
theorem dX6_back_31 : nv_diload qX6_back 31 4 33 := Or.inl ⟨by decide +kernel, rfl⟩
theorem dX6_back_33 : nv_diload qX6_back 33 2 34 := Or.inr ⟨2, rfl, by decide +kernel, rfl⟩
theorem dX6_back_34 : nv_dk qX6_back 34 100 36 := Or.inr (Or.inl ⟨100, ⟨by decide +kernel, rfl⟩, by decide⟩)
theorem dX6_back_36 : nv_dc qX6_back 36 (.invokestatic 74) 3 39 := ⟨by decide +kernel, rfl⟩
theorem dX6_back_39 : nv_dif qX6_back 39 .ne 45 42 := ⟨6, by decide +kernel, by decide, rfl⟩
theorem dX6_back_42 : nv_dk qX6_back 42 (-2) 44 := Or.inr (Or.inl ⟨(-2), ⟨by decide +kernel, rfl⟩, by decide⟩)
theorem dX6_back_44 : decode qX6_back.2.1 44 = .ok (.ireturn, 1) := by decide +kernel
theorem dX6_back_45 : nv_daload qX6_back 45 0 46 := Or.inr ⟨0, rfl, by decide +kernel, rfl⟩
theorem dX6_back_46 : nv_dc qX6_back 46 (.getfield 138) 3 49 := ⟨by decide +kernel, rfl⟩
theorem dX6_back_49 : nv_dk qX6_back 49 12 51 := Or.inr (Or.inl ⟨12, ⟨by decide +kernel, rfl⟩, by decide⟩)
theorem dX6_back_51 : nv_dic qX6_back 51 .lt 57 54 := ⟨6, by decide +kernel, by decide, rfl⟩
theorem dX6_back_54 : nv_dk qX6_back 54 (-4) 56 := Or.inr (Or.inl ⟨(-4), ⟨by decide +kernel, rfl⟩, by decide⟩)
theorem dX6_back_56 : decode qX6_back.2.1 56 = .ok (.ireturn, 1) := by decide +kernel
theorem dX6_back_57 : nv_daload qX6_back 57 0 58 := Or.inr ⟨0, rfl, by decide +kernel, rfl⟩
theorem dX6_back_58 : nv_dc qX6_back 58 (.getfield 21) 3 61 := ⟨by decide +kernel, rfl⟩
theorem dX6_back_61 : nv_daload qX6_back 61 0 62 := Or.inr ⟨0, rfl, by decide +kernel, rfl⟩
theorem dX6_back_62 : nv_dc qX6_back 62 (.getfield 138) 3 65 := ⟨by decide +kernel, rfl⟩
theorem dX6_back_65 : nv_dc qX6_back 65 (.aaload) 1 66 := ⟨by decide +kernel, rfl⟩
theorem dX6_back_66 : nv_dastore qX6_back 66 5 68 := Or.inl ⟨by decide +kernel, rfl⟩
theorem dX6_back_68 : nv_daload qX6_back 68 5 70 := Or.inl ⟨by decide +kernel, rfl⟩
theorem dX6_back_70 : nv_diload qX6_back 70 1 71 := Or.inr ⟨1, rfl, by decide +kernel, rfl⟩
theorem dX6_back_71 : nv_dc qX6_back 71 (.putfield 141) 3 74 := ⟨by decide +kernel, rfl⟩
theorem dX6_back_74 : nv_daload qX6_back 74 5 76 := Or.inl ⟨by decide +kernel, rfl⟩
theorem dX6_back_76 : nv_diload qX6_back 76 2 77 := Or.inr ⟨2, rfl, by decide +kernel, rfl⟩
theorem dX6_back_77 : nv_dc qX6_back 77 (.putfield 144) 3 80 := ⟨by decide +kernel, rfl⟩
theorem dX6_back_80 : nv_daload qX6_back 80 5 82 := Or.inl ⟨by decide +kernel, rfl⟩
theorem dX6_back_82 : nv_diload qX6_back 82 3 83 := Or.inr ⟨3, rfl, by decide +kernel, rfl⟩
theorem dX6_back_83 : nv_dc qX6_back 83 (.putfield 147) 3 86 := ⟨by decide +kernel, rfl⟩
theorem dX6_back_86 : nv_daload qX6_back 86 5 88 := Or.inl ⟨by decide +kernel, rfl⟩
theorem dX6_back_88 : nv_diload qX6_back 88 4 90 := Or.inl ⟨by decide +kernel, rfl⟩
theorem dX6_back_90 : nv_dc qX6_back 90 (.putfield 150) 3 93 := ⟨by decide +kernel, rfl⟩
theorem dX6_back_93 : nv_daload qX6_back 93 0 94 := Or.inr ⟨0, rfl, by decide +kernel, rfl⟩
theorem dX6_back_94 : nv_dc qX6_back 94 (.dup) 1 95 := ⟨by decide +kernel, rfl⟩
theorem dX6_back_95 : nv_dc qX6_back 95 (.getfield 138) 3 98 := ⟨by decide +kernel, rfl⟩
theorem dX6_back_98 : nv_dk qX6_back 98 1 99 := Or.inl ⟨1, ⟨by decide +kernel, rfl⟩, by decide⟩
theorem dX6_back_99 : nv_dc qX6_back 99 (.iadd) 1 100 := ⟨by decide +kernel, rfl⟩
theorem dX6_back_100 : nv_dc qX6_back 100 (.putfield 138) 3 103 := ⟨by decide +kernel, rfl⟩
theorem dX6_back_103 : nv_daload qX6_back 103 0 104 := Or.inr ⟨0, rfl, by decide +kernel, rfl⟩
theorem dX6_back_104 : nv_dc qX6_back 104 (.getfield 138) 3 107 := ⟨by decide +kernel, rfl⟩
theorem dX6_back_107 : nv_dk qX6_back 107 1 108 := Or.inl ⟨1, ⟨by decide +kernel, rfl⟩, by decide⟩
theorem dX6_back_108 : nv_dc qX6_back 108 (.isub) 1 109 := ⟨by decide +kernel, rfl⟩
theorem dX6_back_109 : decode qX6_back.2.1 109 = .ok (.ireturn, 1) := by decide +kernel
def fc_back_45 (h : nv_Hp) (x1 : Int32) (x2 : Int32) (x3 : Int32) (x4 : Int32)   : Option (Int32 × nv_Hp) := (if (h 0 8) < 12 then (if nv_inb (h 0 8) 12 = true then (nv_lt (nv_up h (25 + (h 0 8).toNatClampNeg) 0 x1) fun h3 => (nv_lt (nv_up h3 (25 + (h 0 8).toNatClampNeg) 1 x2) fun h4 => (nv_lt (nv_up h4 (25 + (h 0 8).toNatClampNeg) 2 x3) fun h5 => (nv_lt (nv_up h5 (25 + (h 0 8).toNatClampNeg) 3 x4) fun h6 => (nv_lt (nv_up h6 0 8 ((h6 0 8) + 1)) fun h7 => some (((h7 0 8) - 1), h7)))))) else none) else some ((-4), h))
set_option maxHeartbeats 2000000 in
theorem tc_back_45 (G : nv_G) (h : nv_Hp) (x1 : Int32) (x2 : Int32) (x3 : Int32) (x4 : Int32)   (o5 : Option Value) (r : Int32 × nv_Hp) (hf : fc_back_45 h x1 x2 x3 x4 = some r) : nv_E G 2 qX6_back 45 [some (.ref 0), some (.int x1), some (.int x2), some (.int x3), some (.int x4), o5] [] (nv_s h) (some (.int r.1), nv_s r.2) := by
  unfold fc_back_45 at hf
  refine nv_aL dX6_back_45 rfl ?_
  refine nv_tI lf_X6_138 dX6_back_46 ko_0 rfl ?_
  refine nv_k dX6_back_49 ?_
  refine nv_iclt dX6_back_51 (fun c1 => ?_) (fun c1 => ?_)
  · replace hf := nv_ip c1 hf
    refine nv_aL dX6_back_57 rfl ?_
    refine nv_tR lf_X6_21 dX6_back_58 ko_0 rfl ?_
    refine nv_aL dX6_back_61 rfl ?_
    refine nv_tI lf_X6_138 dX6_back_62 ko_0 rfl ?_
    obtain ⟨g2, hf⟩ := nv_gd hf
    refine nv_aR dX6_back_65 kr_3 ⟨_, rfl⟩ g2 (nv_q1 _ _) ?_
    refine nv_aS dX6_back_66 (by decide) rfl rfl ?_
    refine nv_aL dX6_back_68 rfl ?_
    refine nv_iL dX6_back_70 rfl ?_
    refine nv_pI lp_X6_141 dX6_back_71 (nv_o1 g2) rfl ?_
    obtain ⟨h3, eh3, hf⟩ := nv_ltX hf
    rw [eh3]
    clear eh3
    refine nv_aL dX6_back_74 rfl ?_
    refine nv_iL dX6_back_76 rfl ?_
    refine nv_pI lp_X6_144 dX6_back_77 (nv_o1 g2) rfl ?_
    obtain ⟨h4, eh4, hf⟩ := nv_ltX hf
    rw [eh4]
    clear eh4
    refine nv_aL dX6_back_80 rfl ?_
    refine nv_iL dX6_back_82 rfl ?_
    refine nv_pI lp_X6_147 dX6_back_83 (nv_o1 g2) rfl ?_
    obtain ⟨h5, eh5, hf⟩ := nv_ltX hf
    rw [eh5]
    clear eh5
    refine nv_aL dX6_back_86 rfl ?_
    refine nv_iL dX6_back_88 rfl ?_
    refine nv_pI lp_X6_150 dX6_back_90 (nv_o1 g2) rfl ?_
    obtain ⟨h6, eh6, hf⟩ := nv_ltX hf
    rw [eh6]
    clear eh6
    refine nv_aL dX6_back_93 rfl ?_
    refine nv_dup dX6_back_94 rfl ?_
    refine nv_tI lf_X6_138 dX6_back_95 ko_0 rfl ?_
    refine nv_k dX6_back_98 ?_
    refine nv_iadd dX6_back_99 ?_
    refine nv_tP lp_X6_138 dX6_back_100 ko_0 rfl ?_
    obtain ⟨h7, eh7, hf⟩ := nv_ltX hf
    rw [eh7]
    clear eh7
    refine nv_aL dX6_back_103 rfl ?_
    refine nv_tI lf_X6_138 dX6_back_104 ko_0 rfl ?_
    refine nv_k dX6_back_107 ?_
    refine nv_isub dX6_back_108 ?_
    obtain rfl := Option.some.inj hf
    exact nv_ireturnI dX6_back_109 rfl
  · replace hf := nv_in c1 hf
    refine nv_k dX6_back_54 ?_
    obtain rfl := Option.some.inj hf
    exact nv_ireturnI dX6_back_56 rfl
def fc_back (h : nv_Hp) (x1 : Int32) (x2 : Int32) (x3 : Int32) (x4 : Int32) : Option (Int32 × nv_Hp) := (if (fc_isLeave h x1) = true then (if (fc_isDay x2) = true then (if (fc_isPerson x3) = true then (if x4 = (-1) then (fc_back_45 h x1 x2 x3 x4) else (if (fc_isWithin x4 x2 100) = true then (fc_back_45 h x1 x2 x3 x4) else some ((-2), h))) else some ((-2), h)) else some ((-2), h)) else some ((-2), h))
set_option maxHeartbeats 2000000 in
theorem tc_back (G : nv_G) (h : nv_Hp) (x1 : Int32) (x2 : Int32) (x3 : Int32) (x4 : Int32) {r : Int32 × nv_Hp} (hf : (fc_back h x1 x2 x3 x4) = some r) : nv_Mt G 2 qX6_back [.ref 0, .int x1, .int x2, .int x3, .int x4] (nv_s h) (some (.int r.1), nv_s r.2) := by
  refine nv_of (by decide +kernel) (fun ad => Nat.le_of_ble_eq_true rfl) (Nat.le_refl _) (Nat.le_of_ble_eq_true rfl) ?_
  show nv_E G 2 qX6_back 0 [some (.ref 0), some (.int x1), some (.int x2), some (.int x3), some (.int x4), none] [] (nv_s h) (some (.int r.1), nv_s r.2)
  unfold fc_back at hf
  refine nv_aL dX6_back_0 rfl ?_
  refine nv_iL dX6_back_1 rfl ?_
  refine nv_cVi (tc_isLeave G h x1) dX6_back_2 lm_X6_114 y_qX6_isLeave ko_0 rfl rfl (by decide) rfl (Nat.le_of_ble_eq_true rfl) ?_
  refine nv_ifeqB dX6_back_5 (fun c1 => ?_) (fun c1 => ?_)
  · replace hf := nv_ip c1 hf
    refine nv_iL dX6_back_8 rfl ?_
    refine nv_cSi (tc_isDay G h x2) dX6_back_9 lm_X6_135 y_qX6_isDay rfl (by decide) rfl (Nat.le_of_ble_eq_true rfl) ?_
    refine nv_ifeqB dX6_back_12 (fun c2 => ?_) (fun c2 => ?_)
    · replace hf := nv_ip c2 hf
      refine nv_iL dX6_back_15 rfl ?_
      refine nv_cSi (tc_isPerson G h x3) dX6_back_16 lm_X6_70 y_qX6_isPerson rfl (by decide) rfl (Nat.le_of_ble_eq_true rfl) ?_
      refine nv_ifneB dX6_back_19 (fun c3 => ?_) (fun c3 => ?_)
      · replace hf := nv_ip c3 hf
        refine nv_iL dX6_back_25 rfl ?_
        refine nv_k dX6_back_27 ?_
        refine nv_iceq dX6_back_28 (fun c4 => ?_) (fun c4 => ?_)
        · replace hf := nv_ip c4 hf
          exact tc_back_45 G _ _ _ _ _ _ _ hf
        · replace hf := nv_in c4 hf
          refine nv_iL dX6_back_31 rfl ?_
          refine nv_iL dX6_back_33 rfl ?_
          refine nv_k dX6_back_34 ?_
          refine nv_cSi (tc_isWithin G h x4 x2 100) dX6_back_36 lm_X6_74 y_qX6_isWithin rfl (by decide) rfl (Nat.le_of_ble_eq_true rfl) ?_
          refine nv_ifneB dX6_back_39 (fun c5 => ?_) (fun c5 => ?_)
          · replace hf := nv_ip c5 hf
            exact tc_back_45 G _ _ _ _ _ _ _ hf
          · replace hf := nv_in c5 hf
            refine nv_k dX6_back_42 ?_
            obtain rfl := Option.some.inj hf
            exact nv_ireturnI dX6_back_44 rfl
      · replace hf := nv_in c3 hf
        refine nv_k dX6_back_22 ?_
        obtain rfl := Option.some.inj hf
        exact nv_ireturnI dX6_back_24 rfl
    · replace hf := nv_in c2 hf
      refine nv_k dX6_back_22 ?_
      obtain rfl := Option.some.inj hf
      exact nv_ireturnI dX6_back_24 rfl
  · replace hf := nv_in c1 hf
    refine nv_k dX6_back_22 ?_
    obtain rfl := Option.some.inj hf
    exact nv_ireturnI dX6_back_24 rfl
/-! WhoseName.isBack -/
theorem dX6_isBack_0 : nv_diload qX6_isBack 0 1 1 := Or.inr ⟨1, rfl, by decide +kernel, rfl⟩
theorem dX6_isBack_1 : nv_dk qX6_isBack 1 0 2 := Or.inl ⟨0, ⟨by decide +kernel, rfl⟩, by decide⟩
theorem dX6_isBack_2 : nv_daload qX6_isBack 2 0 3 := Or.inr ⟨0, rfl, by decide +kernel, rfl⟩
theorem dX6_isBack_3 : nv_dc qX6_isBack 3 (.getfield 138) 3 6 := ⟨by decide +kernel, rfl⟩
theorem dX6_isBack_6 : nv_dk qX6_isBack 6 1 7 := Or.inl ⟨1, ⟨by decide +kernel, rfl⟩, by decide⟩
theorem dX6_isBack_7 : nv_dc qX6_isBack 7 (.isub) 1 8 := ⟨by decide +kernel, rfl⟩
theorem dX6_isBack_8 : nv_dc qX6_isBack 8 (.invokestatic 74) 3 11 := ⟨by decide +kernel, rfl⟩
theorem dX6_isBack_11 : decode qX6_isBack.2.1 11 = .ok (.ireturn, 1) := by decide +kernel
def fc_isBack (h : nv_Hp) (x1 : Int32) : Bool := (fc_isWithin x1 0 ((h 0 8) - 1))
set_option maxHeartbeats 2000000 in
theorem tc_isBack (G : nv_G) (h : nv_Hp) (x1 : Int32) : nv_Mt G 1 qX6_isBack [.ref 0, .int x1] (nv_s h) (some (.int (nv_bi (fc_isBack h x1))), nv_s h) := by
  refine nv_of (by decide +kernel) (fun ad => Nat.le_of_ble_eq_true rfl) (Nat.le_refl _) (Nat.le_of_ble_eq_true rfl) ?_
  show nv_E G 1 qX6_isBack 0 [some (.ref 0), some (.int x1)] [] (nv_s h) (some (.int (nv_bi (fc_isBack h x1))), nv_s h)
  generalize hf : (fc_isBack h x1) = r
  unfold fc_isBack at hf
  refine nv_iL dX6_isBack_0 rfl ?_
  refine nv_k dX6_isBack_1 ?_
  refine nv_aL dX6_isBack_2 rfl ?_
  refine nv_tI lf_X6_138 dX6_isBack_3 ko_0 rfl ?_
  refine nv_k dX6_isBack_6 ?_
  refine nv_isub dX6_isBack_7 ?_
  refine nv_cSi (tc_isWithin G h x1 0 ((h 0 8) - 1)) dX6_isBack_8 lm_X6_74 y_qX6_isWithin rfl (by decide) rfl (Nat.le_of_ble_eq_true rfl) ?_
  subst hf
  exact nv_ireturnB (b := (fc_isWithin x1 0 ((h 0 8) - 1))) dX6_isBack_11 rfl
/-! WhoseName.heard -/
theorem dX6_heard_0 : nv_daload qX6_heard 0 0 1 := Or.inr ⟨0, rfl, by decide +kernel, rfl⟩
theorem dX6_heard_1 : nv_diload qX6_heard 1 1 2 := Or.inr ⟨1, rfl, by decide +kernel, rfl⟩
theorem dX6_heard_2 : nv_dc qX6_heard 2 (.invokevirtual 153) 3 5 := ⟨by decide +kernel, rfl⟩
theorem dX6_heard_5 : nv_dif qX6_heard 5 .eq 26 8 := ⟨21, by decide +kernel, by decide, rfl⟩
theorem dX6_heard_8 : nv_diload qX6_heard 8 2 9 := Or.inr ⟨2, rfl, by decide +kernel, rfl⟩
theorem dX6_heard_9 : nv_daload qX6_heard 9 0 10 := Or.inr ⟨0, rfl, by decide +kernel, rfl⟩
theorem dX6_heard_10 : nv_dc qX6_heard 10 (.getfield 21) 3 13 := ⟨by decide +kernel, rfl⟩
theorem dX6_heard_13 : nv_diload qX6_heard 13 1 14 := Or.inr ⟨1, rfl, by decide +kernel, rfl⟩
theorem dX6_heard_14 : nv_dc qX6_heard 14 (.aaload) 1 15 := ⟨by decide +kernel, rfl⟩
theorem dX6_heard_15 : nv_dc qX6_heard 15 (.getfield 144) 3 18 := ⟨by decide +kernel, rfl⟩
theorem dX6_heard_18 : nv_dk qX6_heard 18 100 20 := Or.inr (Or.inl ⟨100, ⟨by decide +kernel, rfl⟩, by decide⟩)
theorem dX6_heard_20 : nv_dc qX6_heard 20 (.invokestatic 74) 3 23 := ⟨by decide +kernel, rfl⟩
theorem dX6_heard_23 : nv_dif qX6_heard 23 .ne 29 26 := ⟨6, by decide +kernel, by decide, rfl⟩
theorem dX6_heard_26 : nv_dk qX6_heard 26 (-2) 28 := Or.inr (Or.inl ⟨(-2), ⟨by decide +kernel, rfl⟩, by decide⟩)
theorem dX6_heard_28 : decode qX6_heard.2.1 28 = .ok (.ireturn, 1) := by decide +kernel
theorem dX6_heard_29 : nv_daload qX6_heard 29 0 30 := Or.inr ⟨0, rfl, by decide +kernel, rfl⟩
theorem dX6_heard_30 : nv_dc qX6_heard 30 (.getfield 21) 3 33 := ⟨by decide +kernel, rfl⟩
theorem dX6_heard_33 : nv_diload qX6_heard 33 1 34 := Or.inr ⟨1, rfl, by decide +kernel, rfl⟩
theorem dX6_heard_34 : nv_dc qX6_heard 34 (.aaload) 1 35 := ⟨by decide +kernel, rfl⟩
theorem dX6_heard_35 : nv_dc qX6_heard 35 (.getfield 150) 3 38 := ⟨by decide +kernel, rfl⟩
theorem dX6_heard_38 : nv_dk qX6_heard 38 (-1) 39 := Or.inl ⟨(-1), ⟨by decide +kernel, rfl⟩, by decide⟩
theorem dX6_heard_39 : nv_dic qX6_heard 39 .eq 45 42 := ⟨6, by decide +kernel, by decide, rfl⟩
theorem dX6_heard_42 : nv_dk qX6_heard 42 (-3) 44 := Or.inr (Or.inl ⟨(-3), ⟨by decide +kernel, rfl⟩, by decide⟩)
theorem dX6_heard_44 : decode qX6_heard.2.1 44 = .ok (.ireturn, 1) := by decide +kernel
theorem dX6_heard_45 : nv_daload qX6_heard 45 0 46 := Or.inr ⟨0, rfl, by decide +kernel, rfl⟩
theorem dX6_heard_46 : nv_dc qX6_heard 46 (.getfield 21) 3 49 := ⟨by decide +kernel, rfl⟩
theorem dX6_heard_49 : nv_diload qX6_heard 49 1 50 := Or.inr ⟨1, rfl, by decide +kernel, rfl⟩
theorem dX6_heard_50 : nv_dc qX6_heard 50 (.aaload) 1 51 := ⟨by decide +kernel, rfl⟩
theorem dX6_heard_51 : nv_diload qX6_heard 51 2 52 := Or.inr ⟨2, rfl, by decide +kernel, rfl⟩
theorem dX6_heard_52 : nv_dc qX6_heard 52 (.putfield 150) 3 55 := ⟨by decide +kernel, rfl⟩
theorem dX6_heard_55 : nv_dk qX6_heard 55 1 56 := Or.inl ⟨1, ⟨by decide +kernel, rfl⟩, by decide⟩
theorem dX6_heard_56 : decode qX6_heard.2.1 56 = .ok (.ireturn, 1) := by decide +kernel
def fc_heard (h : nv_Hp) (x1 : Int32) (x2 : Int32) : Option (Int32 × nv_Hp) := (if (fc_isBack h x1) = true then (if nv_inb x1 12 = true then (if (fc_isWithin x2 (h (25 + x1.toNatClampNeg) 1) 100) = true then (if (h (25 + x1.toNatClampNeg) 3) = (-1) then (nv_lt (nv_up h (25 + x1.toNatClampNeg) 3 x2) fun h5 => some (1, h5)) else some ((-3), h)) else some ((-2), h)) else none) else some ((-2), h))
set_option maxHeartbeats 2000000 in
theorem tc_heard (G : nv_G) (h : nv_Hp) (x1 : Int32) (x2 : Int32) {r : Int32 × nv_Hp} (hf : (fc_heard h x1 x2) = some r) : nv_Mt G 2 qX6_heard [.ref 0, .int x1, .int x2] (nv_s h) (some (.int r.1), nv_s r.2) := by
  refine nv_of (by decide +kernel) (fun ad => Nat.le_of_ble_eq_true rfl) (Nat.le_refl _) (Nat.le_of_ble_eq_true rfl) ?_
  show nv_E G 2 qX6_heard 0 [some (.ref 0), some (.int x1), some (.int x2)] [] (nv_s h) (some (.int r.1), nv_s r.2)
  unfold fc_heard at hf
  refine nv_aL dX6_heard_0 rfl ?_
  refine nv_iL dX6_heard_1 rfl ?_
  refine nv_cVi (tc_isBack G h x1) dX6_heard_2 lm_X6_153 y_qX6_isBack ko_0 rfl rfl (by decide) rfl (Nat.le_of_ble_eq_true rfl) ?_
  refine nv_ifeqB dX6_heard_5 (fun c1 => ?_) (fun c1 => ?_)
  · replace hf := nv_ip c1 hf
    refine nv_iL dX6_heard_8 rfl ?_
    refine nv_aL dX6_heard_9 rfl ?_
    refine nv_tR lf_X6_21 dX6_heard_10 ko_0 rfl ?_
    refine nv_iL dX6_heard_13 rfl ?_
    obtain ⟨g2, hf⟩ := nv_gd hf
    refine nv_aR dX6_heard_14 kr_3 ⟨_, rfl⟩ g2 (nv_q1 _ _) ?_
    refine nv_gI lf_X6_144 dX6_heard_15 (nv_o1 g2) rfl ?_
    refine nv_k dX6_heard_18 ?_
    refine nv_cSi (tc_isWithin G h x2 (h (25 + x1.toNatClampNeg) 1) 100) dX6_heard_20 lm_X6_74 y_qX6_isWithin rfl (by decide) rfl (Nat.le_of_ble_eq_true rfl) ?_
    refine nv_ifneB dX6_heard_23 (fun c3 => ?_) (fun c3 => ?_)
    · replace hf := nv_ip c3 hf
      refine nv_aL dX6_heard_29 rfl ?_
      refine nv_tR lf_X6_21 dX6_heard_30 ko_0 rfl ?_
      refine nv_iL dX6_heard_33 rfl ?_
      refine nv_aR dX6_heard_34 kr_3 ⟨_, rfl⟩ g2 (nv_q1 _ _) ?_
      refine nv_gI lf_X6_150 dX6_heard_35 (nv_o1 g2) rfl ?_
      refine nv_k dX6_heard_38 ?_
      refine nv_iceq dX6_heard_39 (fun c4 => ?_) (fun c4 => ?_)
      · replace hf := nv_ip c4 hf
        refine nv_aL dX6_heard_45 rfl ?_
        refine nv_tR lf_X6_21 dX6_heard_46 ko_0 rfl ?_
        refine nv_iL dX6_heard_49 rfl ?_
        refine nv_aR dX6_heard_50 kr_3 ⟨_, rfl⟩ g2 (nv_q1 _ _) ?_
        refine nv_iL dX6_heard_51 rfl ?_
        refine nv_pI lp_X6_150 dX6_heard_52 (nv_o1 g2) rfl ?_
        obtain ⟨h5, eh5, hf⟩ := nv_ltX hf
        rw [eh5]
        clear eh5
        refine nv_k dX6_heard_55 ?_
        obtain rfl := Option.some.inj hf
        exact nv_ireturnI dX6_heard_56 rfl
      · replace hf := nv_in c4 hf
        refine nv_k dX6_heard_42 ?_
        obtain rfl := Option.some.inj hf
        exact nv_ireturnI dX6_heard_44 rfl
    · replace hf := nv_in c3 hf
      refine nv_k dX6_heard_26 ?_
      obtain rfl := Option.some.inj hf
      exact nv_ireturnI dX6_heard_28 rfl
  · replace hf := nv_in c1 hf
    refine nv_k dX6_heard_26 ?_
    obtain rfl := Option.some.inj hf
    exact nv_ireturnI dX6_heard_28 rfl
