/-! ===== bound, under the relation ===== -/
def sB (g : nv_Hp) (nL nK nA : Nat) (w hd : Nat → Int32) (b : Nat) : Int32 := sp_bits w hd (fun j => g (13 + j)) (fun k => g (25 + k)) (g (37 + b)) (fun i => g (47 + i)) nL nK nA
def sW (g : nv_Hp) (nL nK nA : Nat) (w hd : Nat → Int32) (b : Nat) : Int32 := sp_why w hd (fun j => g (13 + j)) (fun k => g (25 + k)) (g (37 + b)) (fun i => g (47 + i)) nL nK nA
theorem sB_w {g : nv_Hp} {nL nK nA : Nat} {w w' hd hd' : Nat → Int32} {b : Nat} (hN : nL ≤ 13) (hr : sp_roots (fun i => g (13 + i)) nL) (hw : ∀ j, j < 9 → w j = w' j) (hh : ∀ k, k < nK → hd k = hd' k) : sB g nL nK nA w hd b = sB g nL nK nA w' hd' b := sp_bits_cg hN hw hh (fun _ _ _ _ => rfl) (fun _ _ _ _ => rfl) (fun _ _ _ _ => rfl) (fun _ _ => rfl) hr
theorem sW_w {g : nv_Hp} {nL nK nA : Nat} {w w' hd hd' : Nat → Int32} {b : Nat} (hN : nL ≤ 13) (hr : sp_roots (fun i => g (13 + i)) nL) (hw : ∀ j, j < 9 → w j = w' j) (hh : ∀ k, k < nK → hd k = hd' k) : sW g nL nK nA w hd b = sW g nL nK nA w' hd' b := sp_why_cg hN hw hh (fun _ _ _ _ => rfl) (fun _ _ _ _ => rfl) (fun _ _ _ _ => rfl) (fun _ _ => rfl) hr
theorem sH_sm {h0 h : nv_Hp} (s : pu_sm h0 h) (way : Int32) {k : Nat} (hk : k < 12) : fc_hearingDay h (nI k) way = sH h0 way k := by
  unfold sH fc_hearingDay
  rw [nI_clamp (by omega), pu_sm_c s (by omega)]
theorem fc_why_R {h0 h : nv_Hp} {nL nK nB nA k1 b : Nat} {Q : nv_Hp → Prop} (R : pu_Rm Q h0 nL nK nB nA) (s : pu_sm h0 h) (hb : b < nB) (way : Int32) : fc_reasonIn h k1 (37 + b) way = some (sW h0 nL nK nA (h k1) (sH h0 way) b) := by
  obtain ⟨⟨a1, a2, a3⟩, ⟨b1, b2, b3⟩, ⟨c1, c2, c3⟩, ⟨d1, d2, d3⟩, e1⟩ := R.2.1
  have hr : sp_roots (fun i => h (13 + i)) nL := fun i hi => by
    show h (13 + i) 8 = -1 ∨ ∃ r, r < i ∧ h (13 + i) 8 = nI r
    rw [pu_sm_c s (by omega)]; exact pu_Rn_roots R i hi
  rw [fc_why_sp (by rw [pu_sm_0 s (by decide)]; exact a1) a3 (by rw [pu_sm_0 s (by decide)]; exact b1) b3 (by rw [pu_sm_0 s (by decide)]; exact d1) d3 hr]
  congr 1
  exact sp_why_cg (by omega) (fun _ _ => rfl) (fun k hk => sH_sm s way (by omega)) (fun i hi f _ => by rw [pu_sm_c s (by omega)]) (fun k hk f _ => by rw [pu_sm_c s (by omega)]) (fun i hi f _ => by rw [pu_sm_c s (by omega)]) (fun f _ => by rw [pu_sm_c s (by omega)]) hr
theorem fc_bits_R {h0 h : nv_Hp} {nL nK nB nA k1 b : Nat} {hd : Nat → Int32} {Q : nv_Hp → Prop} (R : pu_Rm Q h0 nL nK nB nA) (s : pu_sm h0 h) (hb : b < nB) : fc_bitsOfReason h k1 (37 + b) (sW h0 nL nK nA (h k1) hd b) = some (sB h0 nL nK nA (h k1) hd b) := by
  obtain ⟨⟨a1, a2, a3⟩, ⟨b1, b2, b3⟩, ⟨c1, c2, c3⟩, ⟨d1, d2, d3⟩, e1⟩ := R.2.1
  have hr : sp_roots (fun i => h (13 + i)) nL := fun i hi => by
    show h (13 + i) 8 = -1 ∨ ∃ r, r < i ∧ h (13 + i) 8 = nI r
    rw [pu_sm_c s (by omega)]; exact pu_Rn_roots R i hi
  have key := fc_bits_sp (h := h) (k1 := k1) (k2 := 37 + b) (nL := nL) (nK := nK) (nA := nA) (hd := hd) (bk := fun k => h (25 + k)) (by rw [pu_sm_0 s (by decide)]; exact a1) a3
  have e1 : sp_why (h k1) hd (fun j => h (13 + j)) (fun k => h (25 + k)) (h (37 + b)) (fun i => h (47 + i)) nL nK nA = sW h0 nL nK nA (h k1) hd b := sp_why_cg (by omega) (fun _ _ => rfl) (fun k hk => rfl) (fun i hi f _ => by rw [pu_sm_c s (by omega)]) (fun k hk f _ => by rw [pu_sm_c s (by omega)]) (fun i hi f _ => by rw [pu_sm_c s (by omega)]) (fun f _ => by rw [pu_sm_c s (by omega)]) hr
  have e2 : sp_bits (h k1) hd (fun j => h (13 + j)) (fun k => h (25 + k)) (h (37 + b)) (fun i => h (47 + i)) nL nK nA = sB h0 nL nK nA (h k1) hd b := sp_bits_cg (by omega) (fun _ _ => rfl) (fun k hk => rfl) (fun i hi f _ => by rw [pu_sm_c s (by omega)]) (fun k hk f _ => by rw [pu_sm_c s (by omega)]) (fun i hi f _ => by rw [pu_sm_c s (by omega)]) (fun f _ => by rw [pu_sm_c s (by omega)]) hr
  rw [e1, e2] at key
  exact key
theorem fc_bound_R {h0 h : nv_Hp} {nL nK nB nA k1 b : Nat} {Q : nv_Hp → Prop} (R : pu_Rm Q h0 nL nK nB nA) (s : pu_sm h0 h) (hb : b < nB) (way : Int32) : fc_boundBits h k1 (37 + b) way = some (sB h0 nL nK nA (h k1) (sH h0 way) b) := by
  unfold fc_boundBits
  rw [fc_why_R R s hb, Option.bind_some, fc_bits_R R s hb]
  rfl
theorem pu_Rl_m {h0 h : nv_Hp} {nL nK nB nA : Nat} {Q : nv_Hp → Prop} (R : pu_Rm Q h0 nL nK nB nA) (s : pu_sm h0 h) {i f : Nat} (hi : i < nL) (hf : f < 10) : h (79 + f) i = h0 (13 + i) f := by
  rw [pu_sm_c s (by omega)]; exact (R.2.2.1 i hi).1 f hf
theorem pu_Rk_m {h0 h : nv_Hp} {nL nK nB nA : Nat} {Q : nv_Hp → Prop} (R : pu_Rm Q h0 nL nK nB nA) (s : pu_sm h0 h) {i f : Nat} (hi : i < nK) (hf : f < 4) : h (89 + f) i = h0 (25 + i) f := by
  rw [pu_sm_c s (by omega)]; exact (R.2.2.2.1 i hi).1 f hf
theorem pu_Ra_m {h0 h : nv_Hp} {nL nK nB nA : Nat} {Q : nv_Hp → Prop} (R : pu_Rm Q h0 nL nK nB nA) (s : pu_sm h0 h) {i f : Nat} (hi : i < nA) (hf : f < 5) : h (100 + f) i = h0 (47 + i) f := by
  rw [pu_sm_c s (by omega)]; exact R.2.2.2.2.2.1 i hi f hf
theorem pu_Rb_m {h0 h : nv_Hp} {nL nK nB nA : Nat} {Q : nv_Hp → Prop} (R : pu_Rm Q h0 nL nK nB nA) (s : pu_sm h0 h) {b f : Nat} (hb : b < nB) (h1 : 0 < f) (hf : f < 7) : h (93 + f) b = h0 (37 + b) f := by
  obtain ⟨f, rfl⟩ : ∃ g, f = g + 1 := ⟨f - 1, by omega⟩
  rw [pu_sm_c s (by omega), show 93 + (f + 1) = 94 + f by omega]
  exact (R.2.2.2.2.1 b hb).1 f (by omega)
theorem pu_Rb_g {h0 h : nv_Hp} {nL nK nB nA : Nat} {Q : nv_Hp → Prop} (R : pu_Rm Q h0 nL nK nB nA) (s : pu_sm h0 h) {b : Nat} (hb : b < nB) : ∀ f, f < 7 → pu_bgm h b f = h0 (37 + b) f := by
  intro f hf
  unfold pu_bgm
  by_cases c : f = 0
  · subst c; rw [if_pos rfl]; exact (R.2.2.2.2.1 b hb).2.1.symm
  · rw [if_neg c]; exact pu_Rb_m R s hb (by omega) hf
theorem pm_rootsR {h0 h : nv_Hp} {nL nK nB nA : Nat} {Q : nv_Hp → Prop} (R : pu_Rm Q h0 nL nK nB nA) (s : pu_sm h0 h) : sp_roots (fun i f => h (79 + f) i) nL := fun i hi => by
  show h (79 + 8) i = -1 ∨ ∃ r, r < i ∧ h (79 + 8) i = nI r
  rw [pu_Rl_m R s hi (by omega)]; exact pu_Rn_roots R i hi
theorem pm_bound_R {h0 h : nv_Hp} {nL nK nB nA b : Nat} {w hd : Nat → Int32} {Q : nv_Hp → Prop} (R : pu_Rm Q h0 nL nK nB nA) (s : pu_sm h0 h) (hb : b < nB) (hw : ∀ j, j < 9 → h 108 j = w j) (hh : ∀ k, k < nK → h 93 k = hd k) (hB : pu_B3 (w 0)) : pm_boundNow h (nI b) = some (sB h0 nL nK nA w hd b, nv_up h 73 41 (sW h0 nL nK nA w hd b)) := by
  obtain ⟨⟨a1, a2, a3⟩, ⟨b1, b2, b3⟩, ⟨c1, c2, c3⟩, ⟨d1, d2, d3⟩, e1⟩ := R.2.1
  have hr := pm_rootsR R s
  rw [pm_bound_sp (nL := nL) (nK := nK) (nA := nA) (by rw [pu_sm_73 s (by decide)]; exact a2) (by omega) (by rw [pu_sm_73 s (by decide)]; exact b2) b3 (by rw [pu_sm_73 s (by decide)]; exact d2) d3 (by omega) (by rw [hw 0 (by omega)]; exact hB) hr]
  have e1 := sp_bits_cg (w := h 108) (w' := w) (hd := h 93) (hd' := hd) (lv := fun j f => h (79 + f) j) (lv' := fun j => h0 (13 + j)) (bk := fun j f => h (89 + f) j) (bk' := fun j => h0 (25 + j)) (af := fun j f => h (100 + f) j) (af' := fun j => h0 (47 + j)) (bg := pu_bgm h b) (bg' := h0 (37 + b)) (nL := nL) (nK := nK) (nA := nA) (by omega) hw hh (fun i hi f hf => pu_Rl_m R s hi hf) (fun i hi f hf => pu_Rk_m R s hi hf) (fun i hi f hf => pu_Ra_m R s hi hf) (pu_Rb_g R s hb) hr
  have e2 := sp_why_cg (w := h 108) (w' := w) (hd := h 93) (hd' := hd) (lv := fun j f => h (79 + f) j) (lv' := fun j => h0 (13 + j)) (bk := fun j f => h (89 + f) j) (bk' := fun j => h0 (25 + j)) (af := fun j f => h (100 + f) j) (af' := fun j => h0 (47 + j)) (bg := pu_bgm h b) (bg' := h0 (37 + b)) (nL := nL) (nK := nK) (nA := nA) (by omega) hw hh (fun i hi f hf => pu_Rl_m R s hi hf) (fun i hi f hf => pu_Rk_m R s hi hf) (fun i hi f hf => pu_Ra_m R s hi hf) (pu_Rb_g R s hb) hr
  rw [e1, e2]
  rfl
theorem pm_reach_R {h0 h : nv_Hp} {nL nK nB nA b i : Nat} {w hd : Nat → Int32} {Q : nv_Hp → Prop} (R : pu_Rm Q h0 nL nK nB nA) (s : pu_sm h0 h) (hb : b < nB) (hi : i < nL) (hw : ∀ j, j < 9 → h 108 j = w j) (hh : ∀ k, k < nK → h 93 k = hd k) (hB : pu_B3 (w 0)) : pm_reachesNow h (nI i) (nI b) = some (sp_reach w hd (fun j => h0 (13 + j)) (fun k => h0 (25 + k)) (h0 (37 + b)) nK i) := by
  obtain ⟨⟨a1, a2, a3⟩, ⟨b1, b2, b3⟩, ⟨c1, c2, c3⟩, ⟨d1, d2, d3⟩, e1⟩ := R.2.1
  have hr := pm_rootsR R s
  rw [pm_reach_sp (nK := nK) (N := nL) (by omega) (by rw [pu_sm_73 s (by decide)]; exact b2) b3 (by omega) (by rw [hw 0 (by omega)]; exact hB) hr hi]
  congr 1
  exact sp_reach_cg (N := nL) (by omega) hi hw hh (fun i hi f hf => pu_Rl_m R s hi hf) (fun i hi f hf => pu_Rk_m R s hi hf) (fun f h1 h2 => pu_Rb_m R s hb h1 h2) hr
theorem pm_end_R {h0 h : nv_Hp} {nL nK nB nA b i : Nat} {w hd : Nat → Int32} {Q : nv_Hp → Prop} (R : pu_Rm Q h0 nL nK nB nA) (s : pu_sm h0 h) (hb : b < nB) (hi : i < nL) (hw : ∀ j, j < 9 → h 108 j = w j) (hh : ∀ k, k < nK → h 93 k = hd k) (hB : pu_B3 (w 0)) : pm_isEnded h (nI i) (nI b) = some (sp_end w hd (h0 (13 + i)) (fun k => h0 (25 + k)) (h0 (37 + b)) nK i) := by
  obtain ⟨⟨a1, a2, a3⟩, ⟨b1, b2, b3⟩, ⟨c1, c2, c3⟩, ⟨d1, d2, d3⟩, e1⟩ := R.2.1
  rw [pm_end_sp (nK := nK) (by rw [pu_sm_73 s (by decide)]; exact b2) b3 (by omega) (by omega) (by rw [hw 0 (by omega)]; exact hB)]
  congr 1
  exact sp_end_cg hw hh (fun f hf => pu_Rl_m R s hi hf) (fun i hi f hf => pu_Rk_m R s hi hf) (fun f h1 h2 => pu_Rb_m R s hb h1 h2)
theorem pu_isLeave {h : nv_Hp} {nL nK nB nA : Nat} {Q : nv_Hp → Prop} (R : pu_Rm Q h nL nK nB nA) (x : Int32) : pm_isLeave h x = fc_isLeave h x := by
  unfold pm_isLeave fc_isLeave
  rw [pu_in0, R.2.1.1.1, R.2.1.1.2.1]
theorem pu_isBack {h : nv_Hp} {nL nK nB nA : Nat} {Q : nv_Hp → Prop} (R : pu_Rm Q h nL nK nB nA) (x : Int32) : pm_isBack h x = fc_isBack h x := by
  unfold pm_isBack fc_isBack
  rw [pu_in0, R.2.1.2.1.1, R.2.1.2.1.2.1]
theorem pu_isBargain {h : nv_Hp} {nL nK nB nA : Nat} {Q : nv_Hp → Prop} (R : pu_Rm Q h nL nK nB nA) (x : Int32) : pm_isBargain h x = fc_isBargain h x := by
  unfold pm_isBargain fc_isBargain
  rw [pu_in0, R.2.1.2.2.1.1, R.2.1.2.2.1.2.1]
theorem pu_xLeave {h : nv_Hp} {nL nK nB nA : Nat} {Q : nv_Hp → Prop} (R : pu_Rm Q h nL nK nB nA) {x : Int32} (c : fc_isLeave h x = true) : ∃ i, i < nL ∧ x = nI i := by
  unfold fc_isLeave at c
  rw [R.2.1.1.1] at c
  exact pu_idx (by have := R.2.1.1.2.2; omega) c
theorem pu_xBack {h : nv_Hp} {nL nK nB nA : Nat} {Q : nv_Hp → Prop} (R : pu_Rm Q h nL nK nB nA) {x : Int32} (c : fc_isBack h x = true) : ∃ i, i < nK ∧ x = nI i := by
  unfold fc_isBack at c
  rw [R.2.1.2.1.1] at c
  exact pu_idx (by have := R.2.1.2.1.2.2; omega) c
theorem pu_xBargain {h : nv_Hp} {nL nK nB nA : Nat} {Q : nv_Hp → Prop} (R : pu_Rm Q h nL nK nB nA) {x : Int32} (c : fc_isBargain h x = true) : ∃ i, i < nB ∧ x = nI i := by
  unfold fc_isBargain at c
  rw [R.2.1.2.2.1.1] at c
  exact pu_idx (by have := R.2.1.2.2.1.2.2; omega) c
theorem pu_lawc {l : Nat} (hl : l < 2) : 59 + 3 * l + 2 = 61 + 3 * l := by omega
