/-! ===== settling: the class, all bargains ===== -/
def st_d (g : nv_Hp) (b : Nat) : Nat := (g (37 + b) 1).toNatClampNeg
def st_o (g : nv_Hp) (b : Nat) : Nat := (g (37 + b) 3).toNatClampNeg
def st_A (g : nv_Hp) (nL nK nA : Nat) (w hd : Nat → Int32) (b x : Nat) : Int32 := sA w (g (37 + b)) (sB g nL nK nA w hd b) (nI x)
def st_run (g : nv_Hp) (nL nK nA : Nat) (w hd : Nat → Int32) : Nat → Nat → Int32
  | 0 => g 1
  | b + 1 => st_purse (st_A g nL nK nA w hd b) (st_d g b) (st_o g b) (sB g nL nK nA w hd b &&& ((1 <<< (nI (st_d g b) &&& 31)) ^^^ (-1))) (sO g nL nK nA w hd b) (st_run g nL nK nA w hd b)
def st_lostAt (g : nv_Hp) (nL nK nA : Nat) (w hd : Nat → Int32) (b : Nat) : Int32 := st_lost (st_A g nL nK nA w hd b) (st_d g b) (st_o g b) (st_run g nL nK nA w hd b)
theorem st_do {g : nv_Hp} {nL nK nB nA b : Nat} {Q : nv_Hp → Prop} (R : pu_Rm Q g nL nK nB nA) (hb : b < nB) : g (37 + b) 1 = nI (st_d g b) ∧ st_d g b < 8 ∧ g (37 + b) 3 = nI (st_o g b) ∧ st_o g b < 8 := by
  obtain ⟨_, _, ⟨d, h1, h2⟩, _, ⟨o, h3, h4⟩, _⟩ := R.2.2.2.2.1 b hb
  unfold st_d st_o
  rw [h2, h4, nI_clamp (by omega), nI_clamp (by omega)]
  exact ⟨rfl, h1, rfl, h3⟩
theorem fc_settle_sp {h0 h : nv_Hp} {nL nK nB nA k1 : Nat} {Q : nv_Hp → Prop} (R : pu_Rm Q h0 nL nK nB nA) (s : pu_sm h0 h) (hk1 : 59 ≤ k1 ∧ k1 ≤ 64) :
    ∃ h', fc_settle h k1 = some h' ∧ (∀ z, z < 8 → h' 8 z = st_run h0 nL nK nA (h0 k1) (sH h0 0) nB z) ∧ (∀ b, b < nB → h' 9 b = st_lostAt h0 nL nK nA (h0 k1) (sH h0 0) b) ∧ ∀ k, k ≠ 8 → k ≠ 9 → h' k = h k := by
  obtain ⟨⟨a1, a2, a3⟩, ⟨b1, b2, b3⟩, ⟨c1, c2, c3⟩, ⟨d1, d2, d3⟩, e1⟩ := R.2.1
  have step : ∀ (b : Nat) (u : nv_Hp), b < nB → (∀ z, z < 8 → u 8 z = st_run h0 nL nK nA (h0 k1) (sH h0 0) b z) → (∀ k, k ≠ 8 → k ≠ 9 → u k = h k) → ∃ h', fc_settleBargain u k1 (37 + b) = some h' ∧ (∀ z, z < 8 → h' 8 z = st_run h0 nL nK nA (h0 k1) (sH h0 0) (b + 1) z) ∧ h' 9 b = st_lostAt h0 nL nK nA (h0 k1) (sH h0 0) b ∧ (∀ j, j ≠ b → h' 9 j = u 9 j) ∧ ∀ k, k ≠ 8 → k ≠ 9 → h' k = u k := by
    intro b u hb hu uk
    have su : pu_sm h0 u := pu_sm_t s fun k j q => by
      rw [uk k (fun z => q (by unfold pu_scr; omega)) (fun z => q (by unfold pu_scr; omega))]
    have ek : u k1 = h0 k1 := pu_sm_c su (by omega)
    have eb : u (37 + b) = h0 (37 + b) := pu_sm_c su (by omega)
    obtain ⟨ed, hd8, eo, ho8⟩ := st_do R hb
    obtain ⟨h', q1, q2, q3, q4, q5⟩ := fc_bar_sp (k1 := k1) (hd := sH h0 0) R su hb hk1 ed hd8 eo ho8 hu
    refine ⟨h', ?_, q2, q3, q4, q5⟩
    unfold fc_settleBargain
    rw [fc_why_R R su hb, Option.bind_some, fc_bits_R R su hb, Option.bind_some, fc_due_sp, ek, eb]
    exact q1
  have stepf : ∀ (n b : Nat) (u : nv_Hp) (h' : nv_Hp), b < nB → (∀ k, k ≠ 8 → k ≠ 9 → u k = h k) → fc_settleBargain u k1 (37 + b) = some h' → fc_settle_17 k1 (n + 1) (nI b) u = fc_settle_17 k1 n (nI (b + 1)) h' := by
    intro n b u h' hb uk e
    rw [fc_settle_17, uk 0 (by decide) (by decide), pu_sm_0 s (by decide), c1, if_neg (nI_ge hb (by omega)), if_pos (pu_inb (by omega) (by omega)), nI_clamp (by omega), e, Option.bind_some, nI_1]
  have run : ∀ (k b n : Nat) (u : nv_Hp), b + k = nB → k < n → (∀ z, z < 8 → u 8 z = st_run h0 nL nK nA (h0 k1) (sH h0 0) b z) → (∀ j, j < b → u 9 j = st_lostAt h0 nL nK nA (h0 k1) (sH h0 0) j) → (∀ k, k ≠ 8 → k ≠ 9 → u k = h k) → ∃ h', fc_settle_17 k1 n (nI b) u = some h' ∧ (∀ z, z < 8 → h' 8 z = st_run h0 nL nK nA (h0 k1) (sH h0 0) nB z) ∧ (∀ b, b < nB → h' 9 b = st_lostAt h0 nL nK nA (h0 k1) (sH h0 0) b) ∧ ∀ k, k ≠ 8 → k ≠ 9 → h' k = h k := by
    intro k
    induction k with
    | zero =>
      intro b n u hb hn h8 h9 uk
      have : b = nB := by omega
      subst this
      obtain ⟨n, rfl⟩ : ∃ m, n = m + 1 := ⟨n - 1, by omega⟩
      refine ⟨u, ?_, h8, h9, uk⟩
      rw [fc_settle_17, uk 0 (by decide) (by decide), pu_sm_0 s (by decide), c1, if_pos (nI_le (Nat.le_refl _) (by omega))]
    | succ k ih =>
      intro b n u hb hn h8 h9 uk
      obtain ⟨n, rfl⟩ : ∃ m, n = m + 1 := ⟨n - 1, by omega⟩
      obtain ⟨h', q1, q2, q3, q4, q5⟩ := step b u (by omega) h8 uk
      rw [stepf n b u h' (by omega) uk q1]
      exact ih (b + 1) n h' (by omega) (by omega) q2 (fun j hj => by
        by_cases c : j = b
        · subst c; exact q3
        · rw [q4 j c]; exact h9 j (by omega)) (fun k x y => (q5 k x y).trans (uk k x y))
  unfold fc_settle
  rw [pu_ltE, ← nI_0]
  refine run nB 0 nv_fu _ (by omega) (show nB < 4000 by omega) (fun z hz => ?_) (fun j hj => by omega) (fun k x y => ?_)
  · show (if 8 = 8 then va_cpy (h 1) (h 8) 0 0 8 z else _) = h0 1 z
    rw [if_pos rfl, pk_cpy_in (by omega) (by omega), Nat.zero_add, Nat.sub_zero, pu_sm_c s (by decide)]
  · funext j; exact if_neg x
