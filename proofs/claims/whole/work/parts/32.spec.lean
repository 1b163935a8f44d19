/-! ===== specs: who is bound ===== -/
theorem pu_bit (a b : Int32) : ((a >>> b) &&& 1 = 1) ↔ ¬ ((a >>> b) &&& 1 = 0) := by
  rw [pk_and (a >>> b) 1 (by decide)]
  rcases Nat.mod_two_eq_zero_or_one (a >>> b).toBitVec.toNat with q | q
  · rw [show (2 : Nat) ^ 1 = 2 from rfl, q]; decide
  · rw [show (2 : Nat) ^ 1 = 2 from rfl, q]; decide
theorem pu_flagw {α : Type} {F : Nat → Bool → Int32 → Option α} {N : Nat} {p : Nat → Bool} {K : Bool → Option α} (hs : ∀ n i, i < N → F (n + 1) true (nI i) = F n (!p i) (nI (i + 1)))
    (hf : ∀ n i, i < N → F (n + 1) false (nI i) = K false) (hx : ∀ n b, F (n + 1) b (nI N) = K b) (hN : N < 4000) (b : Bool) : F nv_fu b 0 = K (b && !(List.range N).any p) := by
  have key : ∀ (k i n : Nat) (b : Bool), i + k = N → k < n → F n b (nI i) = K (b && !(List.range' i k).any p) := by
    intro k
    induction k with
    | zero =>
      intro i n b hi hn
      cases n with
      | zero => omega
      | succ n =>
        have : i = N := by omega
        subst this
        rw [hx]; simp
    | succ k ih =>
      intro i n b hi hn
      cases n with
      | zero => omega
      | succ n =>
        cases b with
        | false => rw [hf n i (by omega)]; simp
        | true =>
          rw [hs n i (by omega), ih (i + 1) n _ (by omega) (by omega), List.range'_succ, List.any_cons, Bool.not_or, Bool.true_and]
  rw [← nI_0, key N 0 nv_fu b (by omega) hN, ← List.range_eq_range']
def sp_hit (w hd lvi : Nat → Int32) (bk : Nat → Nat → Int32) (bg : Nat → Int32) (i k : Nat) : Bool :=
  decide (bk k 0 = nI i) && (if lvi 0 = 2 ∨ w 0 ≠ 0 then decide (bk k 2 = (if lvi 0 = 2 then lvi 3 else if w 0 = 2 then bg 3 else lvi 2)) && !decide (bg 6 < hd k) else !decide (bg 6 < bk k 1))
def sp_end (w hd lvi : Nat → Int32) (bk : Nat → Nat → Int32) (bg : Nat → Int32) (nK i : Nat) : Bool := (List.range nK).any (sp_hit w hd lvi bk bg i)
theorem sp_end_cg {w w' hd hd' lvi lvi' : Nat → Int32} {bk bk' : Nat → Nat → Int32} {bg bg' : Nat → Int32} {nK i : Nat} (hw : ∀ j, j < 9 → w j = w' j) (hh : ∀ k, k < nK → hd k = hd' k) (hl : ∀ f, f < 10 → lvi f = lvi' f) (hb : ∀ k, k < nK → ∀ f, f < 4 → bk k f = bk' k f) (hg : ∀ f, 0 < f → f < 7 → bg f = bg' f) : sp_end w hd lvi bk bg nK i = sp_end w' hd' lvi' bk' bg' nK i := by
  unfold sp_end
  apply pu_anyc
  intro k hk
  unfold sp_hit
  rw [hw 0 (by omega), hh k hk, hl 0 (by omega), hl 2 (by omega), hl 3 (by omega), hb k hk 0 (by omega), hb k hk 1 (by omega), hb k hk 2 (by omega), hg 3 (by omega) (by omega), hg 6 (by omega) (by omega)]
theorem fc_end_sp {h : nv_Hp} {k1 k3 i nK : Nat} {way : Int32} (hK : h 0 8 = nI nK) (hn : nK ≤ 12) (hi : i < 12) : fc_isEnded h k1 (nI i) k3 way = some (sp_end (h k1) (fun k => fc_hearingDay h (nI k) way) (h (13 + i)) (fun k => h (25 + k)) (h k3) nK i) := by
  unfold fc_isEnded fc_isEnded_24 nv_lt sp_end
  apply pu_any (N := nK)
  · intro n k hk
    rw [fc_isEnded_42, hK, if_neg (nI_ge hk (by omega)), if_pos (pu_inb (by omega) (by omega)), nI_clamp (by omega), nI_1]
    unfold sp_hit fc_hearerOf
    rw [nI_clamp (by omega)]
    by_cases a : h (25 + k) 0 = nI i <;> by_cases b : h (13 + i) 0 = 2 <;> by_cases c : h k1 0 = 0 <;> by_cases d : h k3 6 < h (25 + k) 1 <;> by_cases e : h k3 6 < fc_hearingDay h (nI k) way <;> simp only [a, b, c, d, e, if_true, if_false, Bool.false_eq_true, decide_true, decide_false, ne_eq, not_true, not_false_iff, or_self, or_true, true_or, false_or, or_false, Bool.true_and, Bool.false_and, Bool.not_true, Bool.not_false, reduceIte, Bool.and_true, Bool.and_false, decide_eq_true_eq, ite_self] <;> first | rfl | (split <;> rfl)
  · intro n
    rw [fc_isEnded_42, hK, if_pos (nI_le (Nat.le_refl _) (by omega))]
  · omega
theorem pm_end_sp {h : nv_Hp} {i b nK : Nat} (hK : h 73 17 = nI nK) (hn : nK ≤ 12) (hi : i < 13) (hb : b < 10) (hw : h 108 0 = 0 ∨ h 108 0 = 1 ∨ h 108 0 = 2) : pm_isEnded h (nI i) (nI b) = some (sp_end (h 108) (h 93) (fun f => h (79 + f) i) (fun k f => h (89 + f) k) (fun f => h (93 + f) b) nK i) := by
  unfold pm_isEnded sp_end
  apply pu_acc (N := nK)
  · intro n q k hk
    rw [pm_isEnded_5, hK, if_neg (nI_ge hk (by omega)), if_pos (pu_inb (by omega) (by omega))]
    unfold pm_isEnded_35 pm_isEnded_153 nv_lt sp_hit
    have g : nv_inb (nI k) 12 = true := pu_inb (by omega) (by omega)
    simp only [g, if_true, nI_clamp (show k < 2 ^ 31 by omega), nI_clamp (show i < 2 ^ 31 by omega), nI_clamp (show b < 2 ^ 31 by omega), nI_1]
    have e10 : ¬ ((1 : Int32) = 0) := by decide
    have e20 : ¬ ((2 : Int32) = 0) := by decide
    have e21 : ¬ ((2 : Int32) = 1) := by decide
    have e12 : ¬ ((1 : Int32) = 2) := by decide
    have e02 : ¬ ((0 : Int32) = 2) := by decide
    cases q <;> by_cases a : h 89 k = nI i <;> by_cases bb : h 79 i = 2 <;> rcases hw with hw | hw | hw <;> by_cases d : h 99 b < h 90 k <;> by_cases e : h 99 b < h 93 k <;> simp [a, bb, hw, d, e, e10, e20, e21, e12, e02]
    all_goals (split <;> simp_all)
  · intro n q
    rw [pm_isEnded_5, hK, if_pos (nI_le (Nat.le_refl _) (by omega))]
  · omega
