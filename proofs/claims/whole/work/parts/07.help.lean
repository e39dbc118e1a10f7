/-! reading, writing, indexes -/
theorem ps_rd {a : Nat → Int32} {e v : Int32} {j : Nat} (he : e = nI j) (hj : j < 2 ^ 31) (hv : a j = v) : a e.toNatClampNeg = v := by rw [he, nI_clamp hj]; exact hv
theorem ps_rdL {a : Nat → Int64} {e : Int32} {v : Int64} {j : Nat} (he : e = nI j) (hj : j < 2 ^ 31) (hv : a j = v) : a e.toNatClampNeg = v := by rw [he, nI_clamp hj]; exact hv
theorem ps_wr {a : Nat → Int32} {e v v' : Int32} {j : Nat} (he : e = nI j) (hj : j < 2 ^ 31) (hv : v = v') : upd a e.toNatClampNeg v = upd a j v' := by rw [he, nI_clamp hj, hv]
theorem ps_wrL {a : Nat → Int64} {e : Int32} {v v' : Int64} {j : Nat} (he : e = nI j) (hj : j < 2 ^ 31) (hv : v = v') : vp_updL a e.toNatClampNeg v = vp_updL a j v' := by rw [he, nI_clamp hj, hv]
theorem ps_ix4 (p l : Nat) : nI p * 4 + nI l = nI (4 * p + l) := by
  rw [show (4 : Int32) = nI 4 from rfl, pk_mul, nI_add, Nat.mul_comm]
theorem ps_ix8 (p l : Nat) : nI p * 8 + nI l = nI (8 * p + l) := by
  rw [show (8 : Int32) = nI 8 from rfl, pk_mul, nI_add, Nat.mul_comm]
theorem ps_m8 (p : Nat) : nI p * 8 = nI (8 * p) := by
  rw [show (8 : Int32) = nI 8 from rfl, pk_mul, Nat.mul_comm]
theorem ps_m4 (p : Nat) : nI p * 4 = nI (4 * p) := by
  rw [show (4 : Int32) = nI 4 from rfl, pk_mul, Nat.mul_comm]
theorem ps_5m (p : Nat) : 5 * nI p = nI (5 * p) := by
  rw [show (5 : Int32) = nI 5 from rfl, pk_mul]
theorem ps_8m (p : Nat) : 8 * nI p = nI (8 * p) := by
  rw [show (8 : Int32) = nI 8 from rfl, pk_mul]
theorem ps_46 (p : Nat) : 461 * nI p = nI (461 * p) := by
  rw [show (461 : Int32) = nI 461 from rfl, pk_mul]
theorem ps_5x (p l : Nat) : 5 * nI p + nI l = nI (5 * p + l) := by rw [ps_5m, nI_add]
theorem ps_8x (p l : Nat) : 8 * nI p + nI l = nI (8 * p + l) := by rw [ps_8m, nI_add]
theorem ps_46x (p l : Nat) : 461 * nI p + nI l = nI (461 * p + l) := by rw [ps_46, nI_add]
theorem ps_m1 {p : Nat} (h : 0 < p) : nI p - 1 = nI (p - 1) := by
  obtain ⟨q, rfl⟩ : ∃ q, p = q + 1 := ⟨p - 1, by omega⟩
  exact nI_pred q
theorem ps_n1 {p : Nat} (h : 0 < p) : nI p + (-1) = nI (p - 1) := by
  obtain ⟨q, rfl⟩ : ∃ q, p = q + 1 := ⟨p - 1, by omega⟩
  exact pk_m1 q
theorem ps_upd_ne {a : Nat → Int32} {k j : Nat} {x v : Int32} (h : j ≠ k) (hv : a j = v) : upd a k x j = v := (pk_un h).trans hv
