/-! ===== settling: bounds ===== -/
def st_ok (P : Nat → Int32) (B : Nat) : Prop := ∀ z, z < 8 → ∃ p, p ≤ B ∧ P z = nI p
theorem st_v {a : Int32} {du r p : Nat} (hdu : du < 2 ^ 31) (hr : r ≤ du) (hp : p < 2 ^ 31) (ha : a = 0 ∨ a = nI du) : ∃ v, fj_min (fj_min (nI r) a) (nI p) = nI v ∧ v ≤ r ∧ v ≤ p := by
  rw [← st_amt hdu hr hp ha]
  by_cases z : a = 0
  · rw [if_pos z]; exact ⟨0, nI_0.symm, by omega, by omega⟩
  · rw [if_neg z]
    by_cases c : p ≤ r
    · rw [if_pos (nI_le c (by omega))]; exact ⟨p, rfl, c, Nat.le_refl _⟩
    · rw [if_neg (nI_ge (by omega) (by omega))]; exact ⟨r, rfl, Nat.le_refl _, by omega⟩
theorem st_pay_ok {P : Nat → Int32} {B D x y v p : Nat} (hP : st_ok P B) (ep : P x = nI p) (hpB : p ≤ B) (hv : v ≤ p) (hD : v ≤ D) (hy : y < 8) : st_ok (st_pay P x y (nI v)) (B + D) := by
  intro z hz
  unfold st_pay
  have e1 : P x - nI v = nI (p - v) := by rw [ep, pk_sub hv]
  by_cases c : z = y
  · rw [if_pos c]
    by_cases d : y = x
    · rw [if_pos d, e1, nI_add]; exact ⟨_, by omega, rfl⟩
    · rw [if_neg d]
      obtain ⟨q, hq, eq⟩ := hP y hy
      rw [eq, nI_add]; exact ⟨_, by omega, rfl⟩
  · rw [if_neg c]
    by_cases d : z = x
    · rw [if_pos d, e1]; exact ⟨_, by omega, rfl⟩
    · rw [if_neg d]
      obtain ⟨q, hq, eq⟩ := hP z hz
      exact ⟨q, by omega, eq⟩
theorem st_one_ok {A P : Nat → Int32} {B du q d o x : Nat} (hdu : du ≤ 1100) (hB : B < 2 ^ 30) (hq : q ≤ du) (hP : st_ok P B) (hA : A x = 0 ∨ A x = nI du) (hx : x < 8) (ho : o < 8) : ∃ q', q' ≤ du ∧ (st_one A d o (nI du) x (nI q, P)).1 = nI q' ∧ st_ok (st_one A d o (nI du) x (nI q, P)).2 (B + 1100) := by
  unfold st_one
  by_cases c : x = d
  · rw [if_pos c]
    exact ⟨q, hq, rfl, fun z hz => by obtain ⟨p, h1, h2⟩ := hP z hz; exact ⟨p, by omega, h2⟩⟩
  · rw [if_neg c]
    obtain ⟨p, h1, h2⟩ := hP x hx
    obtain ⟨v, e, v1, v2⟩ := st_v (a := A x) (du := du) (r := du - q) (p := p) (by omega) (by omega) (by omega) hA
    simp only [pk_sub hq, h2, e, nI_add]
    exact ⟨q + v, by omega, rfl, st_pay_ok hP h2 h1 v2 (by omega) ho⟩
