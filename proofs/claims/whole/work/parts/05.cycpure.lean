/-! sums of relators and their remainders -/
def ps_iI (z : Int) : Int32 := Int32.ofInt z
theorem ps_iI_nI (n : Nat) : nI n = ps_iI n := Int32.ofInt_eq_ofNat.symm
theorem ps_iI_t {z : Int} (h1 : -1000000 ≤ z) (h2 : z ≤ 1000000) : (ps_iI z).toInt = z := Int32.toInt_ofInt_of_le (by omega) (by omega)
theorem ps_iI_inc (z : Int) : ps_iI z + 1 = ps_iI (z + 1) := (Int32.ofInt_add z 1).symm
theorem ps_iI_dec (z : Int) : ps_iI z + (-1) = ps_iI (z - 1) := by
  have e : (-1 : Int32) = Int32.ofInt (-1) := by decide
  show Int32.ofInt z + (-1) = Int32.ofInt (z - 1)
  rw [Int.sub_eq_add_neg, Int32.ofInt_add, ← e]
def ps_su (gen : Nat) (r : Nat → Nat) : Nat → Int
  | 0 => 0
  | i + 1 => if r i = gen then ps_su gen r i + 1 else if r i = gen + 1 then ps_su gen r i - 1 else ps_su gen r i
theorem ps_su_b (gen : Nat) (r : Nat → Nat) : ∀ i : Nat, -(i : Int) ≤ ps_su gen r i ∧ ps_su gen r i ≤ (i : Int)
  | 0 => by simp [ps_su]
  | i + 1 => by
    have h := ps_su_b gen r i
    rw [ps_su]
    split
    · omega
    · split <;> omega
theorem ps_xF {x : Nat} {F : Int} (hx : x ≤ 1000) (h1 : -8 ≤ F) (h2 : F ≤ 8) : -8000 ≤ (x : Int) * F ∧ (x : Int) * F ≤ 8000 := by
  have a := Int.mul_le_mul_of_nonneg_left h1 (show (0 : Int) ≤ (x : Int) by omega)
  have b := Int.mul_le_mul_of_nonneg_left h2 (show (0 : Int) ≤ (x : Int) by omega)
  omega
theorem ps_xFyS {x y : Nat} {F S : Int} : nI x * ps_iI F + nI y * ps_iI S = ps_iI ((x : Int) * F + (y : Int) * S) := by
  rw [ps_iI_nI, ps_iI_nI]
  show Int32.ofInt _ * Int32.ofInt _ + Int32.ofInt _ * Int32.ofInt _ = Int32.ofInt _
  rw [Int32.ofInt_add, Int32.ofInt_mul, Int32.ofInt_mul]
theorem ps_rem (a m : Int32) : (a - a / m * m).toInt = a.toInt.tmod m.toInt := rem_toInt a m
theorem ps_mI {m : Nat} (hm : m ≤ 1000) : (nI m).toInt = (m : Int) := nI_toInt (by omega)
/-- the remainder is 0 where m divides -/
theorem ps_dv {z : Int} {m : Nat} (hm : m ≤ 1000) (h1 : -1000000 ≤ z) (h2 : z ≤ 1000000) : (ps_iI z - ps_iI z / nI m * nI m = 0) ↔ (m : Int) ∣ z := by
  rw [← Int32.toInt_inj, ps_rem, ps_iI_t h1 h2, ps_mI hm, show (0 : Int32).toInt = 0 by decide]
  exact ⟨Int.dvd_of_tmod_eq_zero, Int.tmod_eq_zero_of_dvd⟩
def ps_em (z : Int) (m : Nat) : Nat := (z % (m : Int)).toNat
theorem ps_em_lt {z : Int} {m : Nat} (h : 0 < m) : ps_em z m < m := by
  have a := Int.emod_nonneg z (show (m : Int) ≠ 0 by omega)
  have b := Int.emod_lt_of_pos z (show (0 : Int) < m by omega)
  rw [ps_em]
  omega
theorem ps_em_c {z : Int} {m : Nat} (h : 0 < m) : (ps_em z m : Int) = z % (m : Int) := by
  have a := Int.emod_nonneg z (show (m : Int) ≠ 0 by omega)
  rw [ps_em]
  omega
theorem ps_em_eq {z : Int} {m : Nat} (h0 : 0 < m) (hm : m ≤ 1000) (h1 : -1000000 ≤ z) (h2 : z ≤ 1000000) : (ps_iI z - ps_iI z / nI m * nI m + nI m) - (ps_iI z - ps_iI z / nI m * nI m + nI m) / nI m * nI m = nI (ps_em z m) := by
  have t1 := Int.lt_tmod_of_pos z (show (0 : Int) < (m : Int) by omega)
  have t2 := Int.tmod_lt_of_pos z (show (0 : Int) < (m : Int) by omega)
  have e1 : (ps_iI z - ps_iI z / nI m * nI m).toInt = z.tmod m := by rw [ps_rem, ps_iI_t h1 h2, ps_mI hm]
  have e2 : (ps_iI z - ps_iI z / nI m * nI m + nI m).toInt = z.tmod m + m := by
    rw [Int32.toInt_add, e1, ps_mI hm]
    exact Int.bmod_eq_of_le (by omega) (by omega)
  have hl := ps_em_lt (z := z) h0
  apply Int32.toInt_inj.mp
  rw [ps_rem, e2, ps_mI hm, nI_toInt (by omega), ps_em_c h0, Int.tmod_eq_emod_of_nonneg (by omega), Int.add_emod_right, Int.tmod_def, Int.sub_mul_emod_self_left]
theorem ps_em_0 {z : Int} {m : Nat} (h0 : 0 < m) : ps_em z m = 0 ↔ (m : Int) ∣ z := by
  have e := ps_em_c (z := z) h0
  rw [Int.dvd_iff_emod_eq_zero]
  omega
theorem ps_em_add {a b : Int} {m : Nat} (h0 : 0 < m) : ps_em (a + b) m = if m ≤ ps_em a m + ps_em b m then ps_em a m + ps_em b m - m else ps_em a m + ps_em b m := by
  have ha := ps_em_c (z := a) h0
  have hb := ps_em_c (z := b) h0
  have la := ps_em_lt (z := a) h0
  have lb := ps_em_lt (z := b) h0
  have hs := ps_em_c (z := a + b) h0
  rw [Int.add_emod, ← ha, ← hb] at hs
  split
  · rename_i h
    have e : ((ps_em a m : Int) + ps_em b m) % m = (ps_em a m : Int) + ps_em b m - m := by
      rw [← Int.sub_emod_right]
      exact Int.emod_eq_of_lt (by omega) (by omega)
    omega
  · rename_i h
    have e : ((ps_em a m : Int) + ps_em b m) % m = (ps_em a m : Int) + ps_em b m := Int.emod_eq_of_lt (by omega) (by omega)
    omega
def ps_cc (P : Nat → Nat → Bool) (m : Nat) : Nat → Nat
  | 0 => 0
  | x + 1 => ps_cc P m x + ps_cn (P x) m
theorem ps_cc_le (P : Nat → Nat → Bool) (m : Nat) : ∀ x, ps_cc P m x ≤ x * m
  | 0 => by simp [ps_cc]
  | x + 1 => by
    have := ps_cc_le P m x
    have h := ps_cn_le (P x) m
    rw [ps_cc, Nat.succ_mul]
    omega
theorem ps_cn_all {P : Nat → Bool} (h : ∀ i, P i = true) : ∀ m, ps_cn P m = m
  | 0 => rfl
  | m + 1 => by rw [ps_cn, if_pos (h m), ps_cn_all h m]
theorem ps_cc_all {P : Nat → Nat → Bool} (h : ∀ x y, P x y = true) (m : Nat) : ∀ x, ps_cc P m x = x * m
  | 0 => by simp [ps_cc]
  | x + 1 => by rw [ps_cc, ps_cc_all h m x, ps_cn_all (h x), Nat.succ_mul]
def ps_cp (c m : Nat) (F S : Nat → Int) (x y : Nat) : Bool := decide (∀ k, k < c → (m : Int) ∣ (x : Int) * F k + (y : Int) * S k)
