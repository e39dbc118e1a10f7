section
theorem pk_us {f : Nat → Int32} {k : Nat} {x : Int32} : upd f k x k = x := if_pos rfl
theorem pk_un {f : Nat → Int32} {k j : Nat} {x : Int32} (h : j ≠ k) : upd f k x j = f j := if_neg h
theorem pk_uLs {f : Nat → Int64} {k : Nat} {x : Int64} : vp_updL f k x k = x := if_pos rfl
theorem pk_uLn {f : Nat → Int64} {k j : Nat} {x : Int64} (h : j ≠ k) : vp_updL f k x j = f j := if_neg h
theorem pk_sub {a b : Nat} (h : b ≤ a) : nI a - nI b = nI (a - b) := by
  obtain ⟨c, rfl⟩ : ∃ c, a = c + b := ⟨a - b, by omega⟩
  rw [← nI_add, Int32.add_sub_cancel, Nat.add_sub_cancel]
theorem pk_m1 (n : Nat) : nI (n + 1) + (-1) = nI n := by
  rw [← nI_1, Int32.add_assoc, show (1 : Int32) + (-1) = 0 from rfl, Int32.add_zero]
theorem pk_mul (a b : Nat) : nI a * nI b = nI (a * b) := (Int32.ofNat_mul a b).symm
theorem pk_div {a d : Nat} (ha : a < 2 ^ 31) (h0 : 0 < d) (hd : d < 2 ^ 31) : nI a / nI d = nI (a / d) := by
  apply Int32.toInt_inj.mp
  rw [lg_idiv_nonneg (by rw [nI_toInt ha]; omega) (by rw [nI_toInt hd]; omega), nI_toInt ha, nI_toInt hd, nI_toInt (Nat.lt_of_le_of_lt (Nat.div_le_self a d) ha)]
  first | rfl | exact (Int.natCast_ediv _ _).symm
theorem pk_rem {a d : Nat} (ha : a < 2 ^ 31) (h0 : 0 < d) (hd : d < 2 ^ 31) : nI a - nI a / nI d * nI d = nI (a % d) := by
  rw [pk_div ha h0 hd, pk_mul, pk_sub (Nat.div_mul_le_self a d)]
  exact congrArg nI (by have := Nat.div_add_mod' a d; omega)
theorem pk_sub_toInt {a b : Nat} (ha : a < 2 ^ 30) (hb : b < 2 ^ 30) : (nI a - nI b).toInt = (a : Int) - b := by
  rw [Int32.toInt_sub, nI_toInt (by omega), nI_toInt (by omega)]
  exact Int.bmod_eq_of_le (by omega) (by omega)
theorem pk_ix (x : Int32) {n : Nat} (hn : n < 2 ^ 31) : x < 0 ∨ nI n ≤ x ∨ ∃ j : Nat, j < n ∧ x = nI j := by
  by_cases h : x < 0
  · exact Or.inl h
  · obtain ⟨j, hj, rfl⟩ := nI_of h
    by_cases h2 : j < n
    · exact Or.inr (Or.inr ⟨j, h2, rfl⟩)
    · exact Or.inr (Or.inl (nI_le (by omega) hj))
theorem pk_le {x y : Int32} {A B : Prop} (a b : Nat) (f : a ≤ b → A) (g : b < a → B) (hx : x = nI a := by rfl) (hy : y = nI b := by rfl) (ha : a < 2 ^ 31 := by omega) (hb : b < 2 ^ 31 := by omega) : (x ≤ y → A) ∧ (¬ x ≤ y → B) := by
  subst hx hy
  rw [nI_leI ha hb]
  exact ⟨f, fun z => g (by omega)⟩
theorem pk_lt {x y : Int32} {A B : Prop} (a b : Nat) (f : a < b → A) (g : b ≤ a → B) (hx : x = nI a := by rfl) (hy : y = nI b := by rfl) (ha : a < 2 ^ 31 := by omega) (hb : b < 2 ^ 31 := by omega) : (x < y → A) ∧ (¬ x < y → B) := by
  subst hx hy
  rw [nI_ltI ha hb]
  exact ⟨f, fun z => g (by omega)⟩
theorem pk_eq {x y : Int32} {A B : Prop} (a b : Nat) (f : a = b → A) (g : a ≠ b → B) (hx : x = nI a := by rfl) (hy : y = nI b := by rfl) (ha : a < 2 ^ 31 := by omega) (hb : b < 2 ^ 31 := by omega) : (x = y → A) ∧ (¬ x = y → B) := by
  subst hx hy
  rw [nI_eq ha hb]
  exact ⟨f, g⟩
theorem pk_in {x : Int32} (n N : Nat) (h : n < N) (hx : x = nI n := by rfl) (hN : N < 2 ^ 31 := by omega) : vp_in x N := by
  subst hx
  exact vp_in_nI h hN
theorem pk_cl {x : Int32} (n : Nat) (hx : x = nI n := by rfl) (h : n < 2 ^ 31 := by omega) : x.toNatClampNeg = n := by
  subst hx
  exact nI_clamp h
theorem pk_tn {n : Nat} (h : n < 2 ^ 32) : (nI n).toBitVec.toNat = n := Nat.mod_eq_of_lt h
theorem pk_and (x : Int32) {m : Int32} (k : Nat) (hm : m.toBitVec.toNat = 2 ^ k - 1) : x &&& m = nI (x.toBitVec.toNat % 2 ^ k) := by
  apply Int32.toBitVec_inj.mp
  apply BitVec.eq_of_toNat_eq
  rw [Int32.toBitVec_and, BitVec.toNat_and, hm, Nat.and_two_pow_sub_one_eq_mod]
  show _ = (BitVec.ofNat 32 _).toNat
  rw [BitVec.toNat_ofNat]
  exact (Nat.mod_eq_of_lt (Nat.lt_of_le_of_lt (Nat.mod_le _ _) x.toBitVec.isLt)).symm
theorem pk_andN {n : Nat} (h : n < 2 ^ 32) {m : Int32} (k : Nat) (hm : m.toBitVec.toNat = 2 ^ k - 1) : nI n &&& m = nI (n % 2 ^ k) := by
  rw [pk_and _ k hm, pk_tn h]
theorem pk_shl (a s : Int32) (k : Nat) (hs : (s.toBitVec.smod 32).toNat = k) : (a <<< s).toBitVec.toNat = a.toBitVec.toNat * 2 ^ k % 2 ^ 32 := by
  show (a.toBitVec <<< (s.toBitVec.smod 32).toNat).toNat = _
  rw [hs, BitVec.toNat_shiftLeft, Nat.shiftLeft_eq]
theorem pk_shlN {n : Nat} (s : Int32) (k : Nat) (hs : (s.toBitVec.smod 32).toNat = k) (h : n * 2 ^ k < 2 ^ 32) : nI n <<< s = nI (n * 2 ^ k) := by
  apply Int32.toBitVec_inj.mp
  apply BitVec.eq_of_toNat_eq
  have hn : n < 2 ^ 32 := Nat.lt_of_le_of_lt (Nat.le_mul_of_pos_right n (Nat.two_pow_pos k)) h
  rw [pk_shl _ _ k hs, pk_tn hn, pk_tn h, Nat.mod_eq_of_lt h]
theorem pk_lT {n : Nat} (h : n < 2 ^ 63) : (lN n).toInt = (n : Int) := lg_ofNat_toInt h
theorem pk_lLT {a b : Nat} (ha : a < 2 ^ 63) (hb : b < 2 ^ 63) : lN a < lN b ↔ a < b := by
  rw [Int64.lt_iff_toInt_lt, pk_lT ha, pk_lT hb]; omega
theorem pk_lLE {a b : Nat} (ha : a < 2 ^ 63) (hb : b < 2 ^ 63) : lN a ≤ lN b ↔ a ≤ b := by
  rw [Int64.le_iff_toInt_le, pk_lT ha, pk_lT hb]; omega
theorem pk_lEQ {a b : Nat} (ha : a < 2 ^ 63) (hb : b < 2 ^ 63) : lN a = lN b ↔ a = b := by
  rw [← Int64.toInt_inj, pk_lT ha, pk_lT hb]; omega
theorem pk_lDiv {a b : Nat} (ha : a < 2 ^ 63) (h0 : 0 < b) (hb : b < 2 ^ 63) : lN a / lN b = lN (a / b) := by
  apply Int64.toInt_inj.mp
  rw [lg_ldiv_nonneg (by rw [pk_lT ha]; omega) (by rw [pk_lT hb]; omega), pk_lT ha, pk_lT hb, pk_lT (Nat.lt_of_le_of_lt (Nat.div_le_self a b) ha)]
  rfl
theorem pk_lRem {a b : Nat} (ha : a < 2 ^ 63) (h0 : 0 < b) (hb : b < 2 ^ 63) : lN a - lN a / lN b * lN b = lN (a % b) := by
  rw [pk_lDiv ha h0 hb, lN_mul, lN_sub (Nat.div_mul_le_self a b)]
  exact congrArg lN (by have := Nat.div_add_mod' a b; omega)
theorem pk_loop {σ : Type} (W : Nat → Nat → σ → Prop) (I : Nat → σ → Prop) (e i0 : Nat) (s : σ) (hi : i0 ≤ e) (h0 : I i0 s) (hx : ∀ n s, I e s → W (n + 1) e s)
    (hs : ∀ n i s, i < e → I i s → (∀ s', I (i + 1) s' → W n (i + 1) s') → W (n + 1) i s) : ∃ n, W n i0 s :=
  ⟨e + 1, loop_i W I e hx hs (e + 1) i0 s hi (by omega) h0⟩
theorem pk_loopD {σ : Type} (W : Nat → Nat → σ → Prop) (I : Nat → σ → Prop) (hx : ∀ n s, I 0 s → W (n + 1) 0 s)
    (hs : ∀ n i s, I (i + 1) s → (∀ s', I i s' → W n i s') → W (n + 1) (i + 1) s) : ∀ (e : Nat) (s : σ), I e s → W (e + 1) e s := by
  intro e
  induction e with
  | zero => exact fun s h => hx 0 s h
  | succ e ih => exact fun s h => hs (e + 1) e s h (fun s' h' => ih s' h')
theorem pk_least (P : Nat → Prop) (h : ∃ k, P k) : ∃ k, P k ∧ ∀ j, j < k → ¬ P j := by
  obtain ⟨k, hk⟩ := h
  induction k using Nat.strongRecOn with
  | ind k ih =>
    by_cases e : ∃ j, j < k ∧ P j
    · obtain ⟨j, hj, pj⟩ := e
      exact ih j hj pj
    · exact ⟨k, hk, fun j hj pj => e ⟨j, hj, pj⟩⟩
theorem s_l : ∀ n, n < 32 → ((nI n &&& 31).toBitVec.smod 32).toNat = n := by decide +kernel
theorem nx_xor (a b : Nat) : nI a ^^^ nI b = nI (a ^^^ b) := by
  apply Int32.toBitVec_inj.1
  show BitVec.ofNat 32 a ^^^ BitVec.ofNat 32 b = BitVec.ofNat 32 (a ^^^ b)
  apply BitVec.eq_of_getLsbD_eq
  intro i hi
  simp [hi]
theorem wb_tb (n : Nat) : (lN n).toBitVec = BitVec.ofNat 64 n := rfl
theorem wb_inj {a b : Int64} (h : a.toBitVec = b.toBitVec) : a = b := Int64.toBitVec_inj.mp h
theorem wb_tn {n : Nat} (h : n < 2 ^ 64) : (lN n).toBitVec.toNat = n := by rw [wb_tb, BitVec.toNat_ofNat, Nat.mod_eq_of_lt h]
theorem wb_c : ∀ k, k < 64 → ((nI k).toInt64 &&& 63) = lN k := by decide +kernel
theorem wb_sm : ∀ k, k < 64 → (BitVec.ofNat 64 k).smod 64 = BitVec.ofNat 64 k := by decide +kernel
theorem wb_pw {a b : Nat} (h : a ≤ b) : 2 ^ b = 2 ^ a * 2 ^ (b - a) := by rw [← Nat.pow_add]; congr 1; omega
theorem wb_lt2 {a b : Nat} (h : a < b) : 2 ^ a < 2 ^ b := Nat.pow_lt_pow_right (by decide) h
theorem wb_mod (n : Nat) : lN n = lN (n % 2 ^ 64) := wb_inj (by rw [wb_tb, wb_tb]; apply BitVec.eq_of_toNat_eq; rw [BitVec.toNat_ofNat, BitVec.toNat_ofNat, Nat.mod_mod])
theorem wb_shl (n : Nat) {k : Nat} (hk : k < 64) : lN n <<< ((nI k).toInt64 &&& 63) = lN (n * 2 ^ k) := by
  rw [wb_c k hk]
  apply wb_inj
  rw [Int64.toBitVec_shiftLeft, wb_tb, wb_tb, wb_tb, wb_sm k hk]
  apply BitVec.eq_of_toNat_eq
  rw [BitVec.shiftLeft_eq', BitVec.toNat_shiftLeft, BitVec.toNat_ofNat, BitVec.toNat_ofNat, BitVec.toNat_ofNat, Nat.mod_eq_of_lt (show k < 2 ^ 64 by omega), Nat.shiftLeft_eq, Nat.mul_mod, Nat.mod_mod, ← Nat.mul_mod]
theorem wb_and {a b : Nat} (ha : a < 2 ^ 64) (hb : b < 2 ^ 64) : lN a &&& lN b = lN (a &&& b) := by
  apply wb_inj
  rw [Int64.toBitVec_and, wb_tb, wb_tb, wb_tb]
  apply BitVec.eq_of_toNat_eq
  rw [BitVec.toNat_and, BitVec.toNat_ofNat, BitVec.toNat_ofNat, BitVec.toNat_ofNat, Nat.mod_eq_of_lt ha, Nat.mod_eq_of_lt hb, Nat.mod_eq_of_lt (Nat.and_lt_two_pow _ hb)]
theorem wb_mask {n k : Nat} (hn : n < 2 ^ 64) (hk : k < 64) : lN n &&& lN (2 ^ k - 1) = lN (n % 2 ^ k) := by
  rw [wb_and hn (by have := wb_lt2 hk; omega), Nat.and_two_pow_sub_one_eq_mod]
theorem pf_lI {a : Nat} (h : a < 2 ^ 63) : (lN a).toInt = (a : Int) := lg_ofNat_toInt h
theorem pf_shr {a d : Nat} {D : Int64} (hD : (D.toBitVec.smod 64).toNat = d) (h : a < 2 ^ 62) : lN a >>> D = lN (a / 2 ^ d) := by
  have hd : a / 2 ^ d ≤ a := Nat.div_le_self _ _
  apply Int64.toInt_inj.mp
  have e : (lN a >>> D).toInt = (lN a).toInt >>> d := by
    rw [← hD]
    exact BitVec.toInt_sshiftRight ..
  rw [e, Int.shiftRight_eq_div_pow, pf_lI (by omega), pf_lI (by omega)]
  rfl
end
section
/-! pure pictures: no state, no walk -/
def ps_fc {β : Type} (x : Nat) (f : Nat → β) : β := match x with
  | 0 => f 0
  | Nat.succ k => f (Nat.succ k)
theorem ps_fc_eq {β : Type} (x : Nat) (f : Nat → β) : ps_fc x f = f x := by cases x <;> rfl
theorem ps_or (a b : Nat) : nI a ||| nI b = nI (a ||| b) := by
  apply Int32.toBitVec_inj.1
  show BitVec.ofNat 32 a ||| BitVec.ofNat 32 b = BitVec.ofNat 32 (a ||| b)
  apply BitVec.eq_of_getLsbD_eq
  intro i hi
  simp [hi]
def ps_kf (b : Nat) (d : Nat → Nat) : Nat → Nat
  | 0 => 0
  | m + 1 => b * ps_kf b d m + d m
theorem ps_kf_lt {b : Nat} {d : Nat → Nat} : ∀ m, (∀ i, i < m → d i < b) → ps_kf b d m < b ^ m
  | 0, _ => by simp [ps_kf]
  | m + 1, h => by
    have h1 := ps_kf_lt m (fun i hi => h i (by omega))
    have h2 := h m (by omega)
    have h3 : b * (ps_kf b d m + 1) ≤ b * b ^ m := Nat.mul_le_mul_left b h1
    rw [ps_kf, Nat.pow_succ, Nat.mul_comm (b ^ m) b]
    rw [Nat.mul_add] at h3
    omega
theorem ps_kf_dm {b x d : Nat} (h : d < b) : (b * x + d) / b = x ∧ (b * x + d) % b = d := by
  have hb : 0 < b := by omega
  rw [Nat.mul_add_div hb, Nat.mul_add_mod, Nat.div_eq_of_lt h, Nat.mod_eq_of_lt h]
  exact ⟨rfl, rfl⟩
theorem ps_kf_div {b : Nat} {d : Nat → Nat} : ∀ m i, (∀ j, j < m → d j < b) → i ≤ m → ps_kf b d m / b ^ (m - i) = ps_kf b d i
  | 0, i, _, hi => by
    obtain rfl : i = 0 := by omega
    simp
  | m + 1, i, h, hi => by
    by_cases e : i = m + 1
    · subst e
      simp
    · have h1 : m + 1 - i = (m - i) + 1 := by omega
      have h2 := ps_kf_div m i (fun j hj => h j (by omega)) (by omega)
      rw [h1, Nat.pow_succ, Nat.mul_comm, ← Nat.div_div_eq_div_mul, ps_kf, (ps_kf_dm (h m (by omega))).1, h2]
theorem ps_kf_dig {b : Nat} {d : Nat → Nat} (m i : Nat) (h : ∀ j, j < m → d j < b) (hi : i < m) : ps_kf b d m / b ^ (m - 1 - i) % b = d i := by
  have e : m - 1 - i = m - (i + 1) := by omega
  rw [e, ps_kf_div m (i + 1) h hi, ps_kf, (ps_kf_dm (h i hi)).2]
theorem ps_kf_congr {b : Nat} {d d' : Nat → Nat} : ∀ m, (∀ i, i < m → d i = d' i) → ps_kf b d m = ps_kf b d' m
  | 0, _ => rfl
  | m + 1, h => by rw [ps_kf, ps_kf, ps_kf_congr m (fun i hi => h i (by omega)), h m (by omega)]
theorem ps_kf_add {b : Nat} {d d' : Nat → Nat} : ∀ m, ps_kf b (fun i => d i + d' i) m = ps_kf b d m + ps_kf b d' m
  | 0 => rfl
  | m + 1 => by rw [ps_kf, ps_kf, ps_kf, ps_kf_add m, Nat.mul_add]; omega
/-- digits of an action, row by row -/
def ps_dg (g : Nat → Nat → Nat) (i : Nat) : Nat := g (i % 4) (i / 4)
def ps_ky (n : Nat) (g : Nat → Nat → Nat) : Nat := ps_kf 8 (ps_dg g) (4 * n)
def ps_gk (n K : Nat) (l p : Nat) : Nat := K / 8 ^ (4 * n - 1 - (4 * p + l)) % 8
def ps_Gd (n : Nat) (g : Nat → Nat → Nat) : Prop := ∀ l, l < 4 → ∀ p, p < n → g l p < n
theorem ps_dg_lt {n : Nat} {g : Nat → Nat → Nat} (h : ps_Gd n g) (i : Nat) (hi : i < 4 * n) : ps_dg g i < n := h (i % 4) (by omega) (i / 4) (by omega)
theorem ps_gk_ky {n : Nat} (hn : n ≤ 5) {g : Nat → Nat → Nat} (h : ps_Gd n g) (l p : Nat) (hl : l < 4) (hp : p < n) : ps_gk n (ps_ky n g) l p = g l p := by
  rw [ps_gk, ps_ky, ps_kf_dig (4 * n) (4 * p + l) (fun j hj => Nat.lt_of_lt_of_le (ps_dg_lt h j hj) (by omega)) (by omega), ps_dg, show (4 * p + l) % 4 = l by omega, show (4 * p + l) / 4 = p by omega]
def ps_cv : Nat → Nat → Nat
  | 0, _ => 0
  | m + 1, K => 5 * ps_cv m (K / 8) + K % 8
def ps_D5 : Nat → Nat → Prop
  | 0, K => K = 0
  | m + 1, K => K % 8 < 5 ∧ ps_D5 m (K / 8)
def ps_D5b : Nat → Nat → Bool
  | 0, K => decide (K = 0)
  | m + 1, K => decide (K % 8 < 5) && ps_D5b m (K / 8)
theorem ps_D5b_iff : ∀ m K, ps_D5b m K = true → ps_D5 m K
  | 0, K, h => of_decide_eq_true (p := K = 0) h
  | m + 1, K, h => by
    rw [ps_D5b, Bool.and_eq_true] at h
    exact And.intro (of_decide_eq_true h.1) (ps_D5b_iff m _ h.2)
theorem ps_D5_kf {d : Nat → Nat} : ∀ m, (∀ i, i < m → d i < 5) → ps_D5 m (ps_kf 8 d m)
  | 0, _ => rfl
  | m + 1, h => by
    have e := ps_kf_dm (b := 8) (x := ps_kf 8 d m) (d := d m) (Nat.lt_trans (h m (by omega)) (by decide))
    rw [ps_D5, ps_kf, e.1, e.2]
    exact ⟨h m (by omega), ps_D5_kf m (fun i hi => h i (by omega))⟩
theorem ps_cv_kf {d : Nat → Nat} : ∀ m, (∀ i, i < m → d i < 8) → ps_cv m (ps_kf 8 d m) = ps_kf 5 d m
  | 0, _ => rfl
  | m + 1, h => by
    have e := ps_kf_dm (b := 8) (x := ps_kf 8 d m) (d := d m) (h m (by omega))
    rw [ps_cv, ps_kf, e.1, e.2, ps_cv_kf m (fun i hi => h i (by omega)), ps_kf]
theorem ps_cv_st {m x d : Nat} (h : d < 8) : ps_cv (m + 1) (8 * x + d) = 5 * ps_cv m x + d := by
  have e := ps_kf_dm (b := 8) (x := x) (d := d) h
  rw [ps_cv, e.1, e.2]
theorem ps_cv_lt : ∀ m K K', ps_D5 m K → ps_D5 m K' → (K < K' ↔ ps_cv m K < ps_cv m K')
  | 0, K, K', h, h' => by
    rw [ps_D5] at h h'
    subst h h'
    simp [ps_cv]
  | m + 1, K, K', h, h' => by
    have h : K % 8 < 5 ∧ ps_D5 m (K / 8) := h
    have h' : K' % 8 < 5 ∧ ps_D5 m (K' / 8) := h'
    have i1 := ps_cv_lt m (K / 8) (K' / 8) h.2 h'.2
    have i2 := ps_cv_lt m (K' / 8) (K / 8) h'.2 h.2
    have a := h.1
    have b := h'.1
    rw [ps_cv, ps_cv]
    generalize ps_cv m (K / 8) = c at i1 i2 ⊢
    generalize ps_cv m (K' / 8) = c' at i1 i2 ⊢
    constructor <;> intro q <;> omega
theorem ps_cv_eq {m K K' : Nat} (h : ps_D5 m K) (h' : ps_D5 m K') : K = K' ↔ ps_cv m K = ps_cv m K' := by
  have a := ps_cv_lt m K K' h h'
  have b := ps_cv_lt m K' K h' h
  omega
theorem ps_cv_5 : ∀ m K, ps_D5 m K → ps_cv m K < 5 ^ m
  | 0, _, _ => by simp [ps_cv]
  | m + 1, K, h => by
    have h : K % 8 < 5 ∧ ps_D5 m (K / 8) := h
    have := ps_cv_5 m _ h.2
    have a := h.1
    rw [ps_cv, Nat.pow_succ]
    omega
theorem ps_D5_8 : ∀ m K, ps_D5 m K → K < 8 ^ m
  | 0, K, h => by rw [ps_D5] at h; simp [h]
  | m + 1, K, h => by
    have h : K % 8 < 5 ∧ ps_D5 m (K / 8) := h
    have := ps_D5_8 m _ h.2
    rw [Nat.pow_succ]
    omega
/-- after j digits are taken from the end -/
theorem ps_D5_sh : ∀ j m K, ps_D5 (j + m) K → ps_D5 m (K / 8 ^ j)
  | 0, m, K, h => by rw [Nat.zero_add] at h; simpa using h
  | j + 1, m, K, h => by
    rw [show j + 1 + m = (j + m) + 1 by omega] at h
    have h : K % 8 < 5 ∧ ps_D5 (j + m) (K / 8) := h
    have := ps_D5_sh j m (K / 8) h.2
    rw [Nat.pow_succ, Nat.mul_comm, ← Nat.div_div_eq_div_mul]
    exact this
theorem ps_cv_dm {m K : Nat} (h : ps_D5 (m + 1) K) : ps_cv (m + 1) K / 5 = ps_cv m (K / 8) ∧ ps_cv (m + 1) K % 5 = K % 8 := by
  have h : K % 8 < 5 ∧ ps_D5 m (K / 8) := h
  rw [ps_cv]
  exact ps_kf_dm h.1
/-- walks -/
def ps_wk (g : Nat → Nat → Nat) (r : Nat → Nat) : Nat → Nat → Nat
  | 0, p => p
  | d + 1, p => g (r d) (ps_wk g r d p)
theorem ps_wk_lt {n : Nat} {g : Nat → Nat → Nat} {r : Nat → Nat} (hg : ps_Gd n g) : ∀ d p, (∀ i, i < d → r i < 4) → p < n → ps_wk g r d p < n
  | 0, _, _, hp => hp
  | d + 1, p, h, hp => hg _ (h d (by omega)) _ (ps_wk_lt hg d p (fun i hi => h i (by omega)) hp)
def ps_hb (n c : Nat) (ln : Nat → Nat) (rl : Nat → Nat → Nat) (g : Nat → Nat → Nat) : Bool := decide (∀ k, k < c → ∀ p, p < n → ps_wk g (rl k) (ln k) p = p)
/-- tables -/
def ps_tL (g : Nat → Nat → Nat) (p : Nat) : Nat → Nat → Nat → Option Nat
  | 0, _, met => some met
  | d + 1, l, met => ps_fc (g l p) fun q => if met < q then none else if q = met then ps_tL g p d (l + 1) (Nat.succ met) else ps_tL g p d (l + 1) met
def ps_tP (g : Nat → Nat → Nat) : Nat → Nat → Nat → Bool
  | 0, _, _ => true
  | d + 1, p, met => if met ≤ p then false else match ps_tL g p 4 0 met with
    | none => false
    | some m => ps_tP g d (p + 1) m
def ps_isT (n : Nat) (g : Nat → Nat → Nat) : Bool := ps_tP g n 0 1
/-- numbering anew -/
def ps_up (f : Nat → Nat) (k x : Nat) : Nat → Nat := fun j => if j = k then x else f j
def ps_nL (n : Nat) (g : Nat → Nat → Nat) (q0 : Nat) (k : Nat → (Nat → Nat) → (Nat → Nat) → Nat → Option Nat) : Nat → Nat → Nat → (Nat → Nat) → (Nat → Nat) → Nat → Option Nat
  | 0, _, met, nn, mp, key => k met nn mp key
  | d + 1, l, met, nn, mp, key => ps_fc (g l q0) fun q => if q < n then ps_fc (nn q) fun e => if e = 9 then (if met < n then ps_nL n g q0 k d (l + 1) (Nat.succ met) (ps_up nn q met) (ps_up mp met q) (8 * key + met) else none) else (if e < n then ps_nL n g q0 k d (l + 1) met nn mp (8 * key + e) else none) else none
def ps_nR (n : Nat) (g : Nat → Nat → Nat) : Nat → Nat → Nat → (Nat → Nat) → (Nat → Nat) → Nat → Option Nat
  | 0, _, _, _, _, key => some key
  | d + 1, i, met, nn, mp, key => if i < met then (if mp i < n then ps_nL n g (mp i) (fun met nn mp key => ps_nR n g d (i + 1) met nn mp key) 4 0 met nn mp key else none) else none
def ps_rn (n : Nat) (g : Nat → Nat → Nat) (s : Nat) : Option Nat := ps_nR n g n 0 1 (ps_up (fun _ => 9) s 0) (fun _ => s) 0
def ps_ck (n K : Nat) : Bool := (!ps_isT n (ps_gk n K)) || (List.range n).all (fun s => match ps_rn n (ps_gk n K) s with
  | none => false
  | some R => ps_D5b (4 * n) R)
/-- permutations -/
def ps_iv (f : Nat → Nat) : Nat → Nat → Nat
  | 0, _ => 0
  | m + 1, q => if f m = q then m else ps_iv f m q
def ps_fn (l : List Nat) (p : Nat) : Nat := l.getD p 0
def ps_Pm (n : Nat) (l : List Nat) : Bool := decide (∀ p, p < n → ps_fn l p < n ∧ ps_iv (ps_fn l) n (ps_fn l p) = p ∧ ps_iv (ps_fn l) n p < n ∧ ps_fn l (ps_iv (ps_fn l) n p) = p)
def ps_ac (n : Nat) (f h : List Nat) (l p : Nat) : Nat := match l with
  | 0 => ps_fn f p
  | 1 => ps_iv (ps_fn f) n p
  | 2 => ps_fn h p
  | _ => ps_iv (ps_fn h) n p
def ps_ga (n : Nat) (f : List Nat) (l p : Nat) : Nat := match l with
  | 0 => ps_fn f p
  | 1 => ps_iv (ps_fn f) n p
  | _ => 0
def ps_gb (n : Nat) (h : List Nat) (l p : Nat) : Nat := match l with
  | 0 => 0
  | 1 => 0
  | 2 => ps_fn h p
  | _ => ps_iv (ps_fn h) n p
def ps_A (n : Nat) (f : List Nat) : Nat := ps_ky n (ps_ga n f)
def ps_B (n : Nat) (h : List Nat) : Nat := ps_ky n (ps_gb n h)
theorem ps_AB (n : Nat) (f h : List Nat) : ps_ky n (ps_ac n f h) = ps_A n f + ps_B n h := by
  rw [ps_A, ps_B, ps_ky, ps_ky, ps_ky, ← ps_kf_add]
  apply ps_kf_congr
  intro i _
  have h4 : i % 4 < 4 := by omega
  rw [ps_dg, ps_dg, ps_dg]
  generalize i % 4 = l at h4 ⊢
  match l, h4 with
  | 0, _ => rfl
  | 1, _ => rfl
  | 2, _ => exact (Nat.zero_add _).symm
  | 3, _ => exact (Nat.zero_add _).symm
theorem ps_Pm_iff {n : Nat} {l : List Nat} (h : ps_Pm n l = true) (p : Nat) (hp : p < n) : ps_fn l p < n ∧ ps_iv (ps_fn l) n (ps_fn l p) = p ∧ ps_iv (ps_fn l) n p < n ∧ ps_fn l (ps_iv (ps_fn l) n p) = p := (of_decide_eq_true h) p hp
theorem ps_ac_Gd {n : Nat} {f h : List Nat} (hf : ps_Pm n f = true) (hh : ps_Pm n h = true) : ps_Gd n (ps_ac n f h) := by
  intro l hl p hp
  have a := ps_Pm_iff hf p hp
  have b := ps_Pm_iff hh p hp
  match l, hl with
  | 0, _ => exact a.1
  | 1, _ => exact a.2.2.1
  | 2, _ => exact b.1
  | 3, _ => exact b.2.2.1
/-- injective letters -/
def ps_In (n : Nat) (g : Nat → Nat → Nat) : Prop := ∀ l, l < 4 → ∀ p, p < n → ∀ q, q < n → g l p = g l q → p = q
theorem ps_ac_In {n : Nat} {f h : List Nat} (hf : ps_Pm n f = true) (hh : ps_Pm n h = true) : ps_In n (ps_ac n f h) := by
  intro l hl p hp q hq e
  have a := ps_Pm_iff hf p hp
  have b := ps_Pm_iff hh p hp
  have a' := ps_Pm_iff hf q hq
  have b' := ps_Pm_iff hh q hq
  match l, hl, e with
  | 0, _, e => exact a.2.1.symm.trans ((congrArg (ps_iv (ps_fn f) n) e).trans a'.2.1)
  | 1, _, e => exact a.2.2.2.symm.trans ((congrArg (ps_fn f) e).trans a'.2.2.2)
  | 2, _, e => exact b.2.1.symm.trans ((congrArg (ps_iv (ps_fn h) n) e).trans b'.2.1)
  | 3, _, e => exact b.2.2.2.symm.trans ((congrArg (ps_fn h) e).trans b'.2.2.2)
theorem ps_wk_In {n : Nat} {g : Nat → Nat → Nat} {r : Nat → Nat} (hg : ps_Gd n g) (hi : ps_In n g) : ∀ d, (∀ i, i < d → r i < 4) → ∀ p q, p < n → q < n → ps_wk g r d p = ps_wk g r d q → p = q
  | 0, _, _, _, _, _, e => e
  | d + 1, h, p, q, hp, hq, e => ps_wk_In hg hi d (fun i hi => h i (by omega)) p q hp hq (hi _ (h d (by omega)) _ (ps_wk_lt hg d p (fun i hi => h i (by omega)) hp) _ (ps_wk_lt hg d q (fun i hi => h i (by omega)) hq) e)
end
section
/-! lists of permutations, of pairs, sorted keys; pigeons; counts -/
def ps_sw (f : Nat → Nat) (p q : Nat) : Nat → Nat := ps_up (ps_up f p (f q)) q (f p)
def ps_xf : Nat → Nat → (Nat → Nat) → (Nat → Nat)
  | 0, _, f => f
  | p + 1, rest, f => ps_xf p (rest / (p + 2)) (ps_sw f (p + 1) (rest % (p + 2)))
def ps_xl (n code : Nat) : List Nat := (List.range n).map (ps_xf (n - 1) code (fun p => p))
def ps_fa : Nat → Nat
  | 0 => 1
  | n + 1 => (n + 1) * ps_fa n
def ps_cX (n : Nat) : List (List Nat) := (List.range (ps_fa n)).map (ps_xl n)
def ps_dl (n code : Nat) : List Nat := (List.range n).map (fun i => code / n ^ i % n)
def ps_mk (n code : Nat) : Nat → Nat
  | 0 => 0
  | i + 1 => ps_mk n code i ||| 2 ^ (code / n ^ i % n)
def ps_fu (n code : Nat) : Bool := decide (ps_mk n code n = 2 ^ n - 1)
def ps_cY (n : Nat) : List (List Nat) := ((List.range (n ^ n)).filter (ps_fu n)).map (ps_dl n)
def ps_eX (n t : Nat) : Nat := ps_A n (ps_xl n (t / ps_fa n)) + ps_B n (ps_xl n (t % ps_fa n))
def ps_eY (n t : Nat) : Nat := ps_A n ((ps_cY n).getD (t / (ps_cY n).length) []) + ps_B n ((ps_cY n).getD (t % (ps_cY n).length) [])
def ps_XL (n : Nat) : List Nat := (List.range (ps_fa n * ps_fa n)).map (ps_eX n)
def ps_YL (n : Nat) : List Nat := (List.range ((ps_cY n).length * (ps_cY n).length)).map (ps_eY n)
theorem ps_fl {α : Type} (N : Nat) (k : Nat → Nat → α) : ∀ M, (List.range (M * N)).map (fun t => k (t / N) (t % N)) = (List.range M).flatMap (fun i => (List.range N).map (k i))
  | 0 => by simp
  | M + 1 => by
    rw [Nat.succ_mul, List.range_add, List.map_append, ps_fl N k M, List.range_succ, List.flatMap_append, List.flatMap_singleton, List.map_map]
    congr 1
    apply List.map_congr_left
    intro t ht
    have h := List.mem_range.mp ht
    show k ((M * N + t) / N) ((M * N + t) % N) = k M t
    rw [Nat.mul_comm M N, Nat.mul_add_div (by omega), Nat.mul_add_mod, Nat.div_eq_of_lt h, Nat.mod_eq_of_lt h, Nat.add_zero]
theorem ps_rg {α : Type} (L : List α) (d : α) : (List.range L.length).map (fun i => L.getD i d) = L := by
  apply List.ext_getElem
  · simp
  · intro i h1 h2
    rw [List.getElem_map, List.getElem_range, List.getD_eq_getElem?_getD, List.getElem?_eq_getElem h2]
    rfl
def ps_pp (n : Nat) (L : List (List Nat)) : List Nat := (L.map (ps_A n)).flatMap (fun a => (L.map (ps_B n)).map (fun b => a + b))
theorem ps_XL_pp (n : Nat) : ps_XL n = ps_pp n (ps_cX n) := by
  have h := ps_fl (ps_fa n) (fun i j => ps_A n (ps_xl n i) + ps_B n (ps_xl n j)) (ps_fa n)
  rw [ps_pp, ps_cX, List.map_map, List.map_map, List.flatMap_map]
  simp only [List.map_map]
  exact h
theorem ps_YL_pp (n : Nat) : ps_YL n = ps_pp n (ps_cY n) := by
  have h := ps_fl (ps_cY n).length (fun i j => ps_A n ((ps_cY n).getD i []) + ps_B n ((ps_cY n).getD j [])) (ps_cY n).length
  have e := ps_rg (ps_cY n) []
  have e2 : ps_pp n (ps_cY n) = ps_pp n ((List.range (ps_cY n).length).map (fun i => (ps_cY n).getD i [])) := by rw [e]
  rw [e2, ps_pp, List.map_map, List.map_map, List.flatMap_map]
  simp only [List.map_map]
  exact h
theorem ps_fp {α β : Type} {f g : α → List β} : ∀ l : List α, (∀ a, (f a).Perm (g a)) → (l.flatMap f).Perm (l.flatMap g)
  | [], _ => List.Perm.refl _
  | a :: l, h => by
    rw [List.flatMap_cons, List.flatMap_cons]
    exact (h a).append (ps_fp l h)
theorem ps_XY {n : Nat} (h : (ps_cX n).Perm (ps_cY n)) : (ps_XL n).Perm (ps_YL n) := by
  rw [ps_XL_pp, ps_YL_pp, ps_pp, ps_pp]
  exact ((h.map (ps_A n)).flatMap_right _).trans (ps_fp _ (fun a => (h.map (ps_B n)).map _))
theorem ps_pp_mem {n : Nat} {L : List (List Nat)} {K : Nat} (h : K ∈ ps_pp n L) : ∃ f g, f ∈ L ∧ g ∈ L ∧ K = ps_ky n (ps_ac n f g) := by
  rw [ps_pp, List.mem_flatMap] at h
  obtain ⟨a, ha, hb⟩ := h
  obtain ⟨f, hf, rfl⟩ := List.mem_map.mp ha
  obtain ⟨b, hb2, rfl⟩ := List.mem_map.mp hb
  obtain ⟨g, hg, rfl⟩ := List.mem_map.mp hb2
  exact ⟨f, g, hf, hg, (ps_AB n f g).symm⟩
/-- what is known of a key of a pair -/
def ps_Fa (n K : Nat) : Prop := ps_Gd n (ps_gk n K) ∧ ps_In n (ps_gk n K) ∧ ps_D5 (4 * n) K
theorem ps_Fa_of {n : Nat} (hn : n ≤ 5) {f g : List Nat} (hf : ps_Pm n f = true) (hg : ps_Pm n g = true) : ps_Fa n (ps_ky n (ps_ac n f g)) := by
  have G := ps_ac_Gd hf hg
  have e := fun l p hl hp => ps_gk_ky hn G l p hl hp
  refine ⟨?_, ?_, ?_⟩
  · intro l hl p hp
    rw [e l p hl hp]
    exact G l hl p hp
  · intro l hl p hp q hq
    rw [e l p hl hp, e l q hl hq]
    exact ps_ac_In hf hg l hl p hp q hq
  · exact ps_D5_kf (4 * n) (fun i hi => Nat.lt_of_lt_of_le (ps_dg_lt G i hi) hn)
theorem ps_gA {α : Type} {A B : List α} {i : Nat} {d : α} (h : i < A.length) : (A ++ B).getD i d = A.getD i d := by
  rw [List.getD_eq_getElem?_getD, List.getD_eq_getElem?_getD, List.getElem?_append_left h]
theorem ps_gB {α : Type} {A B : List α} {i : Nat} {d : α} : (A ++ B).getD (A.length + i) d = B.getD i d := by
  rw [List.getD_eq_getElem?_getD, List.getD_eq_getElem?_getD, List.getElem?_append_right (by omega), Nat.add_sub_cancel_left]
theorem ps_gM {α β : Type} {L : List α} {f : α → β} {i : Nat} {d : α} {d' : β} (h : i < L.length) : (L.map f).getD i d' = f (L.getD i d) := by
  rw [List.getD_eq_getElem?_getD, List.getD_eq_getElem?_getD, List.getElem?_map, List.getElem?_eq_getElem h]
  rfl
theorem ps_gIn {α : Type} {L : List α} {i : Nat} {d : α} (h : i < L.length) : L.getD i d ∈ L := by
  rw [List.getD_eq_getElem?_getD, List.getElem?_eq_getElem h]
  exact List.getElem_mem h
theorem ps_gR {α : Type} {n i : Nat} {f : Nat → α} {d : α} (h : i < n) : ((List.range n).map f).getD i d = f i := by
  rw [ps_gM (d := 0) (by simpa using h), List.getD_eq_getElem?_getD, List.getElem?_eq_getElem (by simpa using h), List.getElem_range]
  rfl
theorem ps_eX_eq {n i j : Nat} (hj : j < ps_fa n) : ps_eX n (i * ps_fa n + j) = ps_ky n (ps_ac n (ps_xl n i) (ps_xl n j)) := by
  rw [ps_AB, ps_eX, Nat.mul_comm i, Nat.mul_add_div (by omega), Nat.mul_add_mod, Nat.div_eq_of_lt hj, Nat.mod_eq_of_lt hj, Nat.add_zero]
theorem ps_eY_eq {n i j : Nat} (hj : j < (ps_cY n).length) : ps_eY n (i * (ps_cY n).length + j) = ps_ky n (ps_ac n ((ps_cY n).getD i []) ((ps_cY n).getD j [])) := by
  rw [ps_AB, ps_eY, Nat.mul_comm i, Nat.mul_add_div (by omega), Nat.mul_add_mod, Nat.div_eq_of_lt hj, Nat.mod_eq_of_lt hj, Nat.add_zero]
/-- arrays of long keys -/
def ps_Ar (a : Nat → Int64) (o : Nat) (L : List Nat) : Prop := ∀ i, i < L.length → a (o + i) = lN (L.getD i 0)
def ps_Sp (a : Nat → Int64) (o : Nat) (A B : List Nat) : Prop := (∀ i, i < A.length → a (o + i) = lN (A.getD i 0)) ∧ (∀ i, i < B.length → a (o + A.length + 1 + i) = lN (B.getD i 0))
theorem ps_Sp_mv {a : Nat → Int64} {o x : Nat} {A B : List Nat} (h : ps_Sp a o (A ++ [x]) B) : ps_Sp (vp_updL a (o + A.length + 1) (a (o + A.length))) o A (x :: B) := by
  constructor
  · intro i hi
    rw [pk_uLn (by omega), h.1 i (by simp; omega), ps_gA hi]
  · intro i hi
    cases i with
    | zero =>
      rw [Nat.add_zero, pk_uLs, h.1 A.length (by simp)]
      have := ps_gB (A := A) (B := [x]) (i := 0) (d := 0)
      rw [Nat.add_zero] at this
      rw [this]
      rfl
    | succ i =>
      rw [pk_uLn (by omega)]
      have h2 := h.2 i (by simpa using hi)
      rw [List.length_append, List.length_singleton] at h2
      rw [show o + A.length + 1 + (i + 1) = o + (A.length + 1) + 1 + i by omega, h2]
      rfl
theorem ps_Sp_end {a : Nat → Int64} {o K : Nat} {A B : List Nat} (h : ps_Sp a o A B) : ps_Ar (vp_updL a (o + A.length) (lN K)) o (A ++ K :: B) := by
  intro i hi
  by_cases h1 : i < A.length
  · rw [pk_uLn (by omega), h.1 i h1, ps_gA h1]
  · obtain ⟨j, rfl⟩ : ∃ j, i = A.length + j := ⟨i - A.length, by omega⟩
    rw [ps_gB]
    cases j with
    | zero => rw [Nat.add_zero, pk_uLs]; rfl
    | succ j =>
      rw [pk_uLn (by omega), show o + (A.length + (j + 1)) = o + A.length + 1 + j by omega, h.2 j (by simp at hi; omega)]
      rfl
theorem ps_srt {A B : List Nat} {K : Nat} (h : (A ++ B).Pairwise (· ≤ ·)) (hA : ∀ a, a ∈ A → a ≤ K) (hB : ∀ b, b ∈ B → K ≤ b) : (A ++ K :: B).Pairwise (· ≤ ·) := by
  rw [List.pairwise_append] at h ⊢
  refine ⟨h.1, List.pairwise_cons.mpr ⟨hB, h.2.1⟩, ?_⟩
  intro a ha b hb
  rcases List.mem_cons.mp hb with rfl | hb
  · exact hA a ha
  · exact h.2.2 a ha b hb
theorem ps_srt_last {A B : List Nat} {x K : Nat} (h : ((A ++ [x]) ++ B).Pairwise (· ≤ ·)) (hx : x ≤ K) : ∀ a, a ∈ A ++ [x] → a ≤ K := by
  intro a ha
  rw [List.pairwise_append, List.pairwise_append] at h
  rcases List.mem_append.mp ha with ha | ha
  · exact Nat.le_trans (h.1.2.2 a ha x (List.mem_singleton.mpr rfl)) hx
  · rw [List.mem_singleton.mp ha]
    exact hx
/-- the sorted list of kept keys -/
def ps_TL (n : Nat) (G : Nat → Bool) : List Nat := ((ps_XL n).filter G).mergeSort (fun a b => decide (a ≤ b))
theorem ps_TL_perm (n : Nat) (G : Nat → Bool) : (ps_TL n G).Perm ((ps_XL n).filter G) := List.mergeSort_perm _ _
theorem ps_TL_srt (n : Nat) (G : Nat → Bool) : (ps_TL n G).Pairwise (· ≤ ·) := by
  have h := List.pairwise_mergeSort (le := fun a b : Nat => decide (a ≤ b)) (fun a b c h1 h2 => decide_eq_true (Nat.le_trans (of_decide_eq_true h1) (of_decide_eq_true h2))) (fun a b => by
    rcases Nat.le_total a b with h | h
    · simp [h]
    · simp [h]) ((ps_XL n).filter G)
  exact h.imp (fun h => of_decide_eq_true h)
theorem ps_TL_mem {n K : Nat} {G : Nat → Bool} (h : K ∈ ps_TL n G) : K ∈ ps_XL n ∧ G K = true := List.mem_filter.mp ((ps_TL_perm n G).mem_iff.mp h)
theorem ps_TL_X {n : Nat} {G : Nat → Bool} {L : List Nat} (hs : L.Pairwise (· ≤ ·)) (hp : L.Perm ((ps_XL n).filter G)) : L = ps_TL n G :=
  List.Perm.eq_of_pairwise (fun _ _ _ _ h1 h2 => Nat.le_antisymm h1 h2) hs (ps_TL_srt n G) (hp.trans (ps_TL_perm n G).symm)
theorem ps_TL_Y {n : Nat} {G : Nat → Bool} {L : List Nat} (hD : ∀ K, K ∈ ps_XL n → ps_D5 (4 * n) K) (hXY : (ps_XL n).Perm (ps_YL n)) (hs : L.Pairwise (· ≤ ·)) (hp : L.Perm (((ps_YL n).filter G).map (ps_cv (4 * n)))) : L = (ps_TL n G).map (ps_cv (4 * n)) := by
  refine List.Perm.eq_of_pairwise (le := fun a b : Nat => a ≤ b) (fun _ _ _ _ h1 h2 => Nat.le_antisymm h1 h2) hs ?_ (hp.trans ?_)
  · rw [List.pairwise_map]
    refine List.Pairwise.imp_of_mem ?_ (ps_TL_srt n G)
    intro a b ha hb hab
    have := ps_cv_lt (4 * n) b a (hD b (ps_TL_mem hb).1) (hD a (ps_TL_mem ha).1)
    omega
  · exact (((hXY.filter G).symm).trans (ps_TL_perm n G).symm).map _
theorem ps_pre_s {α : Type} (e : Nat → α) (t : Nat) : (List.range (t + 1)).map e = (List.range t).map e ++ [e t] := by
  rw [List.range_succ, List.map_append]
  rfl
theorem ps_pre_le {e : Nat → Nat} {G H : Nat → Bool} (hGH : ∀ K, G K = true → H K = true) {t M b : Nat} (ht : t ≤ M) (hb : ((List.range M).map e).countP H ≤ b) : (((List.range t).map e).filter G).length ≤ b := by
  rw [← List.countP_eq_length_filter]
  refine Nat.le_trans (List.countP_mono_left (fun x _ h => hGH x h)) (Nat.le_trans ?_ hb)
  exact List.Sublist.countP_le ((List.range_sublist.mpr ht).map e)
theorem ps_ph : ∀ (n : Nat) (f : Nat → Nat), (∀ i, i ≤ n → f i < n) → ∃ i j, i < j ∧ j ≤ n ∧ f i = f j
  | 0, f, h => absurd (h 0 (by omega)) (by omega)
  | n + 1, f, h => by
    by_cases z : ∃ i, i ≤ n ∧ f i = f (n + 1)
    · obtain ⟨i, hi, e⟩ := z
      exact ⟨i, n + 1, by omega, by omega, e⟩
    · have z' : ∀ i, i ≤ n → f i ≠ f (n + 1) := fun i hi e => z ⟨i, hi, e⟩
      obtain ⟨i, j, hij, hj, e⟩ := ps_ph n (fun i => if f i = n then f (n + 1) else f i) (fun i hi => by
        have a := h i (by omega)
        have b := h (n + 1) (by omega)
        have c := z' i hi
        show (if f i = n then f (n + 1) else f i) < n
        split <;> omega)
      refine ⟨i, j, hij, by omega, ?_⟩
      have a := z' i (by omega)
      have b := z' j hj
      have e : (if f i = n then f (n + 1) else f i) = (if f j = n then f (n + 1) else f j) := e
      split at e <;> split at e <;> omega
def ps_it (F : Nat → Nat) : Nat → Nat
  | 0 => 0
  | m + 1 => F (ps_it F m)
theorem ps_it_lt {n : Nat} {F : Nat → Nat} (hn : 0 < n) (hF : ∀ p, p < n → F p < n) : ∀ m, ps_it F m < n
  | 0 => hn
  | m + 1 => hF _ (ps_it_lt hn hF m)
theorem ps_it_back {n : Nat} {F : Nat → Nat} (hn : 0 < n) (hF : ∀ p, p < n → F p < n) (hi : ∀ p q, p < n → q < n → F p = F q → p = q) (d : Nat) : ∀ i, ps_it F i = ps_it F (i + d) → ps_it F d = 0
  | 0, e => by rw [Nat.zero_add] at e; exact e.symm
  | i + 1, e => by
    rw [show i + 1 + d = (i + d) + 1 by omega] at e
    exact ps_it_back hn hF hi d i (hi _ _ (ps_it_lt hn hF i) (ps_it_lt hn hF (i + d)) e)
theorem ps_per {n : Nat} {F : Nat → Nat} (hn : 0 < n) (hF : ∀ p, p < n → F p < n) (hi : ∀ p q, p < n → q < n → F p = F q → p = q) : ∃ m, 1 ≤ m ∧ m ≤ n ∧ ps_it F m = 0 ∧ ∀ j, 1 ≤ j → j < m → ps_it F j ≠ 0 := by
  obtain ⟨i, j, hij, hj, e⟩ := ps_ph n (ps_it F) (fun i _ => ps_it_lt hn hF i)
  have e2 := ps_it_back hn hF hi (j - i) i (by rw [e]; congr 1; omega)
  obtain ⟨m, hm, hl⟩ := pk_least (fun m => 1 ≤ m ∧ m ≤ n ∧ ps_it F m = 0) ⟨j - i, by omega, by omega, e2⟩
  exact ⟨m, hm.1, hm.2.1, hm.2.2, fun k h1 h2 h3 => hl k h2 ⟨h1, by omega, h3⟩⟩
def ps_cn (P : Nat → Bool) : Nat → Nat
  | 0 => 0
  | m + 1 => if P m then ps_cn P m + 1 else ps_cn P m
theorem ps_cn_le (P : Nat → Bool) : ∀ m, ps_cn P m ≤ m
  | 0 => Nat.le_refl 0
  | m + 1 => by
    have := ps_cn_le P m
    rw [ps_cn]
    split <;> omega
end
section
/-! closed tables, by evaluation -/
def ev_X1 : List (List Nat) := [[0]]
def ev_Y1 : List (List Nat) := [[0]]
def ev_A1 : List Nat := [0]
def ev_B1 : List Nat := [0]
theorem ev_cX1 : ps_cX 1 = ev_X1 := by decide +kernel
theorem ev_cY1 : ps_cY 1 = ev_Y1 := by decide +kernel
theorem ev_pm1 : (ps_cX 1).Perm (ps_cY 1) := by
  rw [ev_cX1, ev_cY1, ← List.isPerm_iff]
  decide +kernel
theorem ev_Pm1 : ev_X1.all (ps_Pm 1) = true := by decide +kernel
theorem ev_cA1 : (ps_cX 1).map (ps_A 1) = ev_A1 := by
  rw [ev_cX1]
  decide +kernel
theorem ev_cB1 : (ps_cX 1).map (ps_B 1) = ev_B1 := by
  rw [ev_cX1]
  decide +kernel
theorem ev_ct1 : (ev_A1.map (fun a => ev_B1.countP (fun b => ps_fc (a + b) (fun K => ps_isT 1 (ps_gk 1 K))))).sum ≤ 461 := by decide +kernel
theorem ev_ck1 : ev_A1.all (fun a => ev_B1.all (fun b => ps_fc (a + b) (ps_ck 1))) = true := by decide +kernel
theorem ev_ln1 : ev_Y1.length = 1 := by decide +kernel
def ev_X2 : List (List Nat) := [[1, 0], [0, 1]]
def ev_Y2 : List (List Nat) := [[1, 0], [0, 1]]
def ev_A2 : List Nat := [2359296, 576]
def ev_B2 : List Nat := [36864, 9]
theorem ev_cX2 : ps_cX 2 = ev_X2 := by decide +kernel
theorem ev_cY2 : ps_cY 2 = ev_Y2 := by decide +kernel
theorem ev_pm2 : (ps_cX 2).Perm (ps_cY 2) := by
  rw [ev_cX2, ev_cY2, ← List.isPerm_iff]
  decide +kernel
theorem ev_Pm2 : ev_X2.all (ps_Pm 2) = true := by decide +kernel
theorem ev_cA2 : (ps_cX 2).map (ps_A 2) = ev_A2 := by
  rw [ev_cX2]
  decide +kernel
theorem ev_cB2 : (ps_cX 2).map (ps_B 2) = ev_B2 := by
  rw [ev_cX2]
  decide +kernel
theorem ev_ct2 : (ev_A2.map (fun a => ev_B2.countP (fun b => ps_fc (a + b) (fun K => ps_isT 2 (ps_gk 2 K))))).sum ≤ 461 := by decide +kernel
theorem ev_ck2 : ev_A2.all (fun a => ev_B2.all (fun b => ps_fc (a + b) (ps_ck 2))) = true := by decide +kernel
theorem ev_ln2 : ev_Y2.length = 2 := by decide +kernel
def ev_X3 : List (List Nat) := [[1, 2, 0], [2, 0, 1], [1, 0, 2], [2, 1, 0], [0, 2, 1], [0, 1, 2]]
def ev_Y3 : List (List Nat) := [[2, 1, 0], [1, 2, 0], [2, 0, 1], [0, 2, 1], [1, 0, 2], [0, 1, 2]]
def ev_A3 : List Nat := [10741612608, 18254135808, 9663677568, 19329712128, 4719168, 2360448]
def ev_B3 : List Nat := [167837697, 285220872, 150994962, 302026752, 73737, 36882]
theorem ev_cX3 : ps_cX 3 = ev_X3 := by decide +kernel
theorem ev_cY3 : ps_cY 3 = ev_Y3 := by decide +kernel
theorem ev_pm3 : (ps_cX 3).Perm (ps_cY 3) := by
  rw [ev_cX3, ev_cY3, ← List.isPerm_iff]
  decide +kernel
theorem ev_Pm3 : ev_X3.all (ps_Pm 3) = true := by decide +kernel
theorem ev_cA3 : (ps_cX 3).map (ps_A 3) = ev_A3 := by
  rw [ev_cX3]
  decide +kernel
theorem ev_cB3 : (ps_cX 3).map (ps_B 3) = ev_B3 := by
  rw [ev_cX3]
  decide +kernel
theorem ev_ct3 : (ev_A3.map (fun a => ev_B3.countP (fun b => ps_fc (a + b) (fun K => ps_isT 3 (ps_gk 3 K))))).sum ≤ 461 := by decide +kernel
theorem ev_ck3 : ev_A3.all (fun a => ev_B3.all (fun b => ps_fc (a + b) (ps_ck 3))) = true := by decide +kernel
theorem ev_ln3 : ev_Y3.length = 6 := by decide +kernel
def ev_X4 : List (List Nat) := [[1, 2, 3, 0], [3, 2, 0, 1], [1, 3, 0, 2], [1, 2, 0, 3], [2, 3, 1, 0], [2, 0, 3, 1], [3, 0, 1, 2], [2, 0, 1, 3], [1, 3, 2, 0], [3, 0, 2, 1], [1, 0, 3, 2], [1, 0, 2, 3], [2, 1, 3, 0], [2, 3, 0, 1], [3, 1, 0, 2], [2, 1, 0, 3], [3, 2, 1, 0], [0, 2, 3, 1], [0, 3, 1, 2], [0, 2, 1, 3], [3, 1, 2, 0], [0, 3, 2, 1], [0, 1, 3, 2], [0, 1, 2, 3]]
def ev_Y4 : List (List Nat) := [[3, 2, 1, 0], [2, 3, 1, 0], [3, 1, 2, 0], [1, 3, 2, 0], [2, 1, 3, 0], [1, 2, 3, 0], [3, 2, 0, 1], [2, 3, 0, 1], [3, 0, 2, 1], [0, 3, 2, 1], [2, 0, 3, 1], [0, 2, 3, 1], [3, 1, 0, 2], [1, 3, 0, 2], [3, 0, 1, 2], [0, 3, 1, 2], [1, 0, 3, 2], [0, 1, 3, 2], [2, 1, 0, 3], [1, 2, 0, 3], [2, 0, 1, 3], [0, 2, 1, 3], [1, 0, 2, 3], [0, 1, 2, 3]]
def ev_A4 : List Nat := [48395698045056, 114369610646016, 44006235702336, 43997645244096, 83590803095616, 74770018206336, 109953313145856, 74768940271296, 48404286144576, 109954388722176, 39582425678976, 39582423320256, 83572553678976, 79193828229696, 114358873752576, 79174500878016, 118766585511936, 20407648896, 27920172096, 19329713856, 118756924194816, 28995748416, 9670755456, 9668396736]
def ev_B4 : List Nat := [756182781954, 1787025166344, 687597432849, 687463206939, 1306106298369, 1168281534474, 1718020517904, 1168264691739, 756316971009, 1718037323784, 618475401234, 618475364379, 1305821151234, 1237403566089, 1786857402384, 1237101576219, 1855727898624, 318869514, 436252689, 302026779, 1855576940544, 453058569, 151105554, 151068699]
theorem ev_cX4 : ps_cX 4 = ev_X4 := by decide +kernel
theorem ev_cY4 : ps_cY 4 = ev_Y4 := by decide +kernel
theorem ev_pm4 : (ps_cX 4).Perm (ps_cY 4) := by
  rw [ev_cX4, ev_cY4, ← List.isPerm_iff]
  decide +kernel
theorem ev_Pm4 : ev_X4.all (ps_Pm 4) = true := by decide +kernel
theorem ev_cA4 : (ps_cX 4).map (ps_A 4) = ev_A4 := by
  rw [ev_cX4]
  decide +kernel
theorem ev_cB4 : (ps_cX 4).map (ps_B 4) = ev_B4 := by
  rw [ev_cX4]
  decide +kernel
theorem ev_ct4 : (ev_A4.map (fun a => ev_B4.countP (fun b => ps_fc (a + b) (fun K => ps_isT 4 (ps_gk 4 K))))).sum ≤ 461 := by decide +kernel
theorem ev_ck4 : ev_A4.all (fun a => ev_B4.all (fun b => ps_fc (a + b) (ps_ck 4))) = true := by decide +kernel
theorem ev_ln4 : ev_Y4.length = 24 := by decide +kernel
def ev_X5 : List (List Nat) := [[1, 2, 3, 4, 0], [4, 2, 3, 0, 1], [1, 4, 3, 0, 2], [1, 2, 4, 0, 3], [1, 2, 3, 0, 4], [3, 2, 4, 1, 0], [3, 2, 0, 4, 1], [3, 4, 0, 1, 2], [4, 2, 0, 1, 3], [3, 2, 0, 1, 4], [1, 3, 4, 2, 0], [4, 3, 0, 2, 1], [1, 3, 0, 4, 2], [1, 4, 0, 2, 3], [1, 3, 0, 2, 4], [1, 2, 4, 3, 0], [4, 2, 0, 3, 1], [1, 4, 0, 3, 2], [1, 2, 0, 4, 3], [1, 2, 0, 3, 4], [2, 3, 1, 4, 0], [2, 3, 4, 0, 1], [4, 3, 1, 0, 2], [2, 4, 1, 0, 3], [2, 3, 1, 0, 4], [2, 4, 3, 1, 0], [2, 0, 3, 4, 1], [4, 0, 3, 1, 2], [2, 0, 4, 1, 3], [2, 0, 3, 1, 4], [3, 4, 1, 2, 0], [3, 0, 4, 2, 1], [3, 0, 1, 4, 2], [4, 0, 1, 2, 3], [3, 0, 1, 2, 4], [2, 4, 1, 3, 0], [2, 0, 4, 3, 1], [4, 0, 1, 3, 2], [2, 0, 1, 4, 3], [2, 0, 1, 3, 4], [1, 3, 2, 4, 0], [4, 3, 2, 0, 1], [1, 3, 4, 0, 2], [1, 4, 2, 0, 3], [1, 3, 2, 0, 4], [3, 4, 2, 1, 0], [3, 0, 2, 4, 1], [3, 0, 4, 1, 2], [4, 0, 2, 1, 3], [3, 0, 2, 1, 4], [1, 4, 3, 2, 0], [4, 0, 3, 2, 1], [1, 0, 3, 4, 2], [1, 0, 4, 2, 3], [1, 0, 3, 2, 4], [1, 4, 2, 3, 0], [4, 0, 2, 3, 1], [1, 0, 4, 3, 2], [1, 0, 2, 4, 3], [1, 0, 2, 3, 4], [2, 1, 3, 4, 0], [2, 4, 3, 0, 1], [4, 1, 3, 0, 2], [2, 1, 4, 0, 3], [2, 1, 3, 0, 4], [2, 3, 4, 1, 0], [2, 3, 0, 4, 1], [4, 3, 0, 1, 2], [2, 4, 0, 1, 3], [2, 3, 0, 1, 4], [3, 1, 4, 2, 0], [3, 4, 0, 2, 1], [3, 1, 0, 4, 2], [4, 1, 0, 2, 3], [3, 1, 0, 2, 4], [2, 1, 4, 3, 0], [2, 4, 0, 3, 1], [4, 1, 0, 3, 2], [2, 1, 0, 4, 3], [2, 1, 0, 3, 4], [3, 2, 1, 4, 0], [3, 2, 4, 0, 1], [3, 4, 1, 0, 2], [4, 2, 1, 0, 3], [3, 2, 1, 0, 4], [4, 2, 3, 1, 0], [0, 2, 3, 4, 1], [0, 4, 3, 1, 2], [0, 2, 4, 1, 3], [0, 2, 3, 1, 4], [4, 3, 1, 2, 0], [0, 3, 4, 2, 1], [0, 3, 1, 4, 2], [0, 4, 1, 2, 3], [0, 3, 1, 2, 4], [4, 2, 1, 3, 0], [0, 2, 4, 3, 1], [0, 4, 1, 3, 2], [0, 2, 1, 4, 3], [0, 2, 1, 3, 4], [3, 1, 2, 4, 0], [3, 4, 2, 0, 1], [3, 1, 4, 0, 2], [4, 1, 2, 0, 3], [3, 1, 2, 0, 4], [4, 3, 2, 1, 0], [0, 3, 2, 4, 1], [0, 3, 4, 1, 2], [0, 4, 2, 1, 3], [0, 3, 2, 1, 4], [4, 1, 3, 2, 0], [0, 4, 3, 2, 1], [0, 1, 3, 4, 2], [0, 1, 4, 2, 3], [0, 1, 3, 2, 4], [4, 1, 2, 3, 0], [0, 4, 2, 3, 1], [0, 1, 4, 3, 2], [0, 1, 2, 4, 3], [0, 1, 2, 3, 4]]
def ev_Y5 : List (List Nat) := [[4, 3, 2, 1, 0], [3, 4, 2, 1, 0], [4, 2, 3, 1, 0], [2, 4, 3, 1, 0], [3, 2, 4, 1, 0], [2, 3, 4, 1, 0], [4, 3, 1, 2, 0], [3, 4, 1, 2, 0], [4, 1, 3, 2, 0], [1, 4, 3, 2, 0], [3, 1, 4, 2, 0], [1, 3, 4, 2, 0], [4, 2, 1, 3, 0], [2, 4, 1, 3, 0], [4, 1, 2, 3, 0], [1, 4, 2, 3, 0], [2, 1, 4, 3, 0], [1, 2, 4, 3, 0], [3, 2, 1, 4, 0], [2, 3, 1, 4, 0], [3, 1, 2, 4, 0], [1, 3, 2, 4, 0], [2, 1, 3, 4, 0], [1, 2, 3, 4, 0], [4, 3, 2, 0, 1], [3, 4, 2, 0, 1], [4, 2, 3, 0, 1], [2, 4, 3, 0, 1], [3, 2, 4, 0, 1], [2, 3, 4, 0, 1], [4, 3, 0, 2, 1], [3, 4, 0, 2, 1], [4, 0, 3, 2, 1], [0, 4, 3, 2, 1], [3, 0, 4, 2, 1], [0, 3, 4, 2, 1], [4, 2, 0, 3, 1], [2, 4, 0, 3, 1], [4, 0, 2, 3, 1], [0, 4, 2, 3, 1], [2, 0, 4, 3, 1], [0, 2, 4, 3, 1], [3, 2, 0, 4, 1], [2, 3, 0, 4, 1], [3, 0, 2, 4, 1], [0, 3, 2, 4, 1], [2, 0, 3, 4, 1], [0, 2, 3, 4, 1], [4, 3, 1, 0, 2], [3, 4, 1, 0, 2], [4, 1, 3, 0, 2], [1, 4, 3, 0, 2], [3, 1, 4, 0, 2], [1, 3, 4, 0, 2], [4, 3, 0, 1, 2], [3, 4, 0, 1, 2], [4, 0, 3, 1, 2], [0, 4, 3, 1, 2], [3, 0, 4, 1, 2], [0, 3, 4, 1, 2], [4, 1, 0, 3, 2], [1, 4, 0, 3, 2], [4, 0, 1, 3, 2], [0, 4, 1, 3, 2], [1, 0, 4, 3, 2], [0, 1, 4, 3, 2], [3, 1, 0, 4, 2], [1, 3, 0, 4, 2], [3, 0, 1, 4, 2], [0, 3, 1, 4, 2], [1, 0, 3, 4, 2], [0, 1, 3, 4, 2], [4, 2, 1, 0, 3], [2, 4, 1, 0, 3], [4, 1, 2, 0, 3], [1, 4, 2, 0, 3], [2, 1, 4, 0, 3], [1, 2, 4, 0, 3], [4, 2, 0, 1, 3], [2, 4, 0, 1, 3], [4, 0, 2, 1, 3], [0, 4, 2, 1, 3], [2, 0, 4, 1, 3], [0, 2, 4, 1, 3], [4, 1, 0, 2, 3], [1, 4, 0, 2, 3], [4, 0, 1, 2, 3], [0, 4, 1, 2, 3], [1, 0, 4, 2, 3], [0, 1, 4, 2, 3], [2, 1, 0, 4, 3], [1, 2, 0, 4, 3], [2, 0, 1, 4, 3], [0, 2, 1, 4, 3], [1, 0, 2, 4, 3], [0, 1, 2, 4, 3], [3, 2, 1, 0, 4], [2, 3, 1, 0, 4], [3, 1, 2, 0, 4], [1, 3, 2, 0, 4], [2, 1, 3, 0, 4], [1, 2, 3, 0, 4], [3, 2, 0, 1, 4], [2, 3, 0, 1, 4], [3, 0, 2, 1, 4], [0, 3, 2, 1, 4], [2, 0, 3, 1, 4], [0, 2, 3, 1, 4], [3, 1, 0, 2, 4], [1, 3, 0, 2, 4], [3, 0, 1, 2, 4], [0, 3, 1, 2, 4], [1, 0, 3, 2, 4], [0, 1, 3, 2, 4], [2, 1, 0, 3, 4], [1, 2, 0, 3, 4], [2, 0, 1, 3, 4], [0, 2, 1, 3, 4], [1, 0, 2, 3, 4], [0, 1, 2, 3, 4]]
def ev_A5 : List Nat := [216243177710420160, 630591935606161920, 198299151157953600, 198228787783009920, 198228779192551680, 504486756584784000, 468462323258884800, 468528297171485760, 612573113282987520, 468457925206083840, 216278372815470720, 612612697850380800, 180249542514705600, 180284725809645120, 180249541436770560, 216243186298519680, 612577511333429760, 180284726885221440, 180214354922178240, 180214354919819520, 360402327997513920, 342396751342469760, 630618309926323200, 342423113852520000, 342387929479645440, 360441927589953600, 306262392625955520, 594488375019832320, 306258003163612800, 306257994573154560, 504552703662227520, 450377592508252800, 450368771723363520, 594483958722332160, 450368770645428480, 360437512368029760, 306262401214055040, 594483959797908480, 306253579353589440, 306253579351230720, 216278354566054080, 630627112461795840, 198263975375537280, 198299140421060160, 198263956048185600, 504557109222834240, 450377574258836160, 450373195533386880, 594488364282938880, 450373176206035200, 216313548597887040, 594492771994698240, 162129616659023040, 162129624171546240, 162129615581088000, 216313538936569920, 594492762333381120, 162129625247122560, 162129605922129600, 162129605919770880, 360327578386956480, 342431927124886080, 630543560315765760, 342313188459546240, 342313179869088000, 360406751807537280, 324382318481638080, 612608300875514880, 324413104801711680, 324377920428837120, 504442778269253760, 468532694146351680, 468413947968488640, 612529134967457280, 468413946890553600, 360327586975056000, 324417502852153920, 612529136043033600, 324298755598714560, 324298755596355840, 504482332774760640, 486476756119716480, 486538306222294080, 630583122333795840, 486467934256892160, 648601936071229440, 87987782681280, 153961695282240, 83598320338560, 83589729880320, 648632707366256640, 123182887731840, 114362102842560, 149545397782080, 114361024907520, 648597520849305600, 87996370780800, 149546473358400, 79174510315200, 79174507956480, 504442760019837120, 486547108757766720, 486428380829320320, 630543549578872320, 486428361501968640, 648637112926863360, 123164638315200, 118785912865920, 153950958388800, 118766585514240, 648557957755699200, 158358670148160, 39612492285120, 39620004808320, 39611414350080, 648557948094382080, 158349008831040, 39621080384640, 39601755391680, 39601753032960]
def ev_B5 : List Nat := [3378799651725315, 9852998993846280, 3098424236843025, 3097324809109530, 3097324674883620, 7882605571637250, 7319723800920075, 7320754643304465, 9571454895046680, 7319655081345060, 3379349575241730, 9572073403912200, 2816399101792275, 2816948840775705, 2816399084949540, 3378799785914370, 9571523614584840, 2816948857581585, 2815849295659035, 2815849295622180, 5631286374961155, 5349949239726090, 9853411092598800, 5350361153945625, 5349811398119460, 5631905118593025, 4785349884780555, 9288880859684880, 4785281299431450, 4785281165205540, 7883635994722305, 7037149882941450, 7037012058177555, 9288811855036440, 7037012041334820, 5631836130750465, 4785350018969610, 9288811871842320, 4785212177399835, 4785212177362980, 3379349290094595, 9853548632215560, 3097874615242770, 3098424069079065, 3097874313252900, 7883704831606785, 7037149597794315, 7037081180209170, 9288880691920920, 7037080878219300, 3379899196841985, 9288949562417160, 2533275260297235, 2533275377680410, 2533275243454500, 3379899045883905, 9288949411459080, 2533275394486290, 2533275092533275, 2533275092496420, 5630118412296195, 5350498861326345, 9852243129933840, 5348643569680410, 5348643435454500, 5631355496992770, 5068473726275595, 9572004701179920, 5068954762526745, 5068405006700580, 7881918410457090, 7320823346036745, 7318967937007635, 9570767733866520, 7318967920164900, 5630118546485250, 5069023482064905, 9570767750672400, 5067168056229915, 5067168056193060, 7882536449605635, 7601199314370570, 7602161034723345, 9852861286465560, 7601061472763940, 10134405251112960, 1374809104395, 2405651488785, 1306223755290, 1306089529380, 10134886052597760, 1924732620810, 1786907856915, 2336646840345, 1786891014180, 10134336263270400, 1374943293450, 2336663646225, 1237101723675, 1237101686820, 7881918125309955, 7602298574340105, 7600443450458130, 9852242962169880, 7600443148468260, 10134954889482240, 1924447473675, 1856029888530, 2405483724825, 1855727898660, 10133718089932800, 2474354221065, 618945191955, 619062575130, 618928349220, 10133717938974720, 2474203262985, 619079381010, 618777427995, 618777391140]
theorem ev_cX5 : ps_cX 5 = ev_X5 := by decide +kernel
theorem ev_cY5 : ps_cY 5 = ev_Y5 := by decide +kernel
theorem ev_pm5 : (ps_cX 5).Perm (ps_cY 5) := by
  rw [ev_cX5, ev_cY5, ← List.isPerm_iff]
  decide +kernel
theorem ev_Pm5 : ev_X5.all (ps_Pm 5) = true := by decide +kernel
theorem ev_cA5 : (ps_cX 5).map (ps_A 5) = ev_A5 := by
  rw [ev_cX5]
  decide +kernel
theorem ev_cB5 : (ps_cX 5).map (ps_B 5) = ev_B5 := by
  rw [ev_cX5]
  decide +kernel
theorem ev_ct5 : (ev_A5.map (fun a => ev_B5.countP (fun b => ps_fc (a + b) (fun K => ps_isT 5 (ps_gk 5 K))))).sum ≤ 461 := by decide +kernel
theorem ev_ck5 : ev_A5.all (fun a => ev_B5.all (fun b => ps_fc (a + b) (ps_ck 5))) = true := by decide +kernel
theorem ev_ln5 : ev_Y5.length = 120 := by decide +kernel
theorem ev_cnt_of {n : Nat} {X : List (List Nat)} {A B : List Nat} (hX : ps_cX n = X) (hA : (ps_cX n).map (ps_A n) = A) (hB : (ps_cX n).map (ps_B n) = B) (h : (A.map (fun a => B.countP (fun b => ps_fc (a + b) (fun K => ps_isT n (ps_gk n K))))).sum ≤ 461) : (ps_XL n).countP (fun K => ps_isT n (ps_gk n K)) ≤ 461 := by
  rw [ps_XL_pp, ps_pp, hA, hB, List.countP_flatMap]
  refine Nat.le_trans (Nat.le_of_eq ?_) h
  congr 1
  apply List.map_congr_left
  intro a _
  show List.countP _ (List.map _ B) = _
  rw [List.countP_map]
  congr 1
  funext b
  rw [ps_fc_eq]
  rfl
theorem ev_chk_of {n : Nat} {A B : List Nat} (hA : (ps_cX n).map (ps_A n) = A) (hB : (ps_cX n).map (ps_B n) = B) (h : A.all (fun a => B.all (fun b => ps_fc (a + b) (ps_ck n))) = true) (K : Nat) (hK : K ∈ ps_XL n) : ps_ck n K = true := by
  rw [ps_XL_pp, ps_pp, hA, hB, List.mem_flatMap] at hK
  obtain ⟨a, ha, hb⟩ := hK
  obtain ⟨b, hb2, rfl⟩ := List.mem_map.mp hb
  have h1 := List.all_eq_true.mp h a ha
  have h2 := List.all_eq_true.mp h1 b hb2
  rw [ps_fc_eq] at h2
  exact h2
/-- five cases -/
theorem ev_5 {P : Nat → Prop} (h1 : P 1) (h2 : P 2) (h3 : P 3) (h4 : P 4) (h5 : P 5) {n : Nat} (h0 : 0 < n) (hn : n ≤ 5) : P n := by
  match n, h0, hn with
  | 1, _, _ => exact h1
  | 2, _, _ => exact h2
  | 3, _, _ => exact h3
  | 4, _, _ => exact h4
  | 5, _, _ => exact h5
theorem ev_perm {n : Nat} (h0 : 0 < n) (hn : n ≤ 5) : (ps_cX n).Perm (ps_cY n) := ev_5 (P := fun n => (ps_cX n).Perm (ps_cY n)) ev_pm1 ev_pm2 ev_pm3 ev_pm4 ev_pm5 h0 hn
theorem ev_cnt {n : Nat} (h0 : 0 < n) (hn : n ≤ 5) : (ps_XL n).countP (fun K => ps_isT n (ps_gk n K)) ≤ 461 := ev_5 (P := fun n => (ps_XL n).countP (fun K => ps_isT n (ps_gk n K)) ≤ 461) (ev_cnt_of ev_cX1 ev_cA1 ev_cB1 ev_ct1) (ev_cnt_of ev_cX2 ev_cA2 ev_cB2 ev_ct2) (ev_cnt_of ev_cX3 ev_cA3 ev_cB3 ev_ct3) (ev_cnt_of ev_cX4 ev_cA4 ev_cB4 ev_ct4) (ev_cnt_of ev_cX5 ev_cA5 ev_cB5 ev_ct5) h0 hn
theorem ev_chk {n : Nat} (h0 : 0 < n) (hn : n ≤ 5) : ∀ K, K ∈ ps_XL n → ps_ck n K = true := ev_5 (P := fun n => ∀ K, K ∈ ps_XL n → ps_ck n K = true) (ev_chk_of ev_cA1 ev_cB1 ev_ck1) (ev_chk_of ev_cA2 ev_cB2 ev_ck2) (ev_chk_of ev_cA3 ev_cB3 ev_ck3) (ev_chk_of ev_cA4 ev_cB4 ev_ck4) (ev_chk_of ev_cA5 ev_cB5 ev_ck5) h0 hn
theorem ev_P1_of {n : Nat} {X : List (List Nat)} (hX : ps_cX n = X) (h : X.all (ps_Pm n) = true) : ∀ f, f ∈ ps_cX n → ps_Pm n f = true := by
  rw [hX]
  exact List.all_eq_true.mp h
theorem ev_P {n : Nat} (h0 : 0 < n) (hn : n ≤ 5) : ∀ f, f ∈ ps_cX n → ps_Pm n f = true := ev_5 (P := fun n => ∀ f, f ∈ ps_cX n → ps_Pm n f = true) (ev_P1_of ev_cX1 ev_Pm1) (ev_P1_of ev_cX2 ev_Pm2) (ev_P1_of ev_cX3 ev_Pm3) (ev_P1_of ev_cX4 ev_Pm4) (ev_P1_of ev_cX5 ev_Pm5) h0 hn
theorem ev_PY {n : Nat} (h0 : 0 < n) (hn : n ≤ 5) : ∀ f, f ∈ ps_cY n → ps_Pm n f = true := fun f hf => ev_P h0 hn f ((ev_perm h0 hn).mem_iff.mpr hf)
theorem ev_fa {n : Nat} (hn : n ≤ 5) : 0 < ps_fa n ∧ ps_fa n ≤ 120 := by
  have : ∀ n, n ≤ 5 → 0 < ps_fa n ∧ ps_fa n ≤ 120 := by decide +kernel
  exact this n hn
theorem ev_cYl {n : Nat} (h0 : 0 < n) (hn : n ≤ 5) : (ps_cY n).length = ps_fa n := by
  rw [← (ev_perm h0 hn).length_eq, ps_cX, List.length_map, List.length_range]
theorem ev_XLFa {n : Nat} (h0 : 0 < n) (hn : n ≤ 5) {K : Nat} (hK : K ∈ ps_XL n) : ps_Fa n K := by
  rw [ps_XL_pp] at hK
  obtain ⟨f, g, hf, hg, rfl⟩ := ps_pp_mem hK
  exact ps_Fa_of hn (ev_P h0 hn f hf) (ev_P h0 hn g hg)
theorem ev_xl {n i : Nat} (h0 : 0 < n) (hn : n ≤ 5) (hi : i < ps_fa n) : ps_Pm n (ps_xl n i) = true := ev_P h0 hn _ (List.mem_map.mpr ⟨i, List.mem_range.mpr hi, rfl⟩)
theorem ev_yl {n i : Nat} (h0 : 0 < n) (hn : n ≤ 5) (hi : i < (ps_cY n).length) : ps_Pm n ((ps_cY n).getD i []) = true := ev_PY h0 hn _ (ps_gIn hi)
/-- numbering anew, of a table -/
theorem ev_rn {n K s : Nat} (h0 : 0 < n) (hn : n ≤ 5) (hK : K ∈ ps_XL n) (hT : ps_isT n (ps_gk n K) = true) (hs : s < n) : ∃ R, ps_rn n (ps_gk n K) s = some R ∧ ps_D5 (4 * n) R := by
  have h := ev_chk h0 hn K hK
  rw [ps_ck, hT] at h
  have h2 := List.all_eq_true.mp h s (List.mem_range.mpr hs)
  revert h2
  cases e : ps_rn n (ps_gk n K) s with
  | none => intro h2; cases h2
  | some R => exact fun h2 => ⟨R, rfl, ps_D5b_iff _ _ h2⟩
end
section
/-! sums of relators and their remainders -/
def ps_iI (z : Int) : Int32 := Int32.ofInt z
theorem ps_iI_nI (n : Nat) : nI n = ps_iI n := Int32.ofInt_eq_ofNat.symm
theorem ps_iI_t {z : Int} (h1 : -1000000 ≤ z) (h2 : z ≤ 1000000) : (ps_iI z).toInt = z := Int32.toInt_ofInt_of_le (by omega) (by omega)
theorem ps_iI_inc (z : Int) : ps_iI z + 1 = ps_iI (z + 1) := (Int32.ofInt_add z 1).symm
theorem ps_iI_dec (z : Int) : ps_iI z + (-1) = ps_iI (z - 1) := by
  have e : (-1 : Int32) = Int32.ofInt (-1) := by decide
  show Int32.ofInt z + (-1) = Int32.ofInt (z - 1)
  rw [Int.sub_eq_add_neg, Int32.ofInt_add, ← e]
def ps_su (gen : Nat) (r : Nat → Nat) : Nat → Int
  | 0 => 0
  | i + 1 => if r i = gen then ps_su gen r i + 1 else if r i = gen + 1 then ps_su gen r i - 1 else ps_su gen r i
theorem ps_su_b (gen : Nat) (r : Nat → Nat) : ∀ i : Nat, -(i : Int) ≤ ps_su gen r i ∧ ps_su gen r i ≤ (i : Int)
  | 0 => by simp [ps_su]
  | i + 1 => by
    have h := ps_su_b gen r i
    rw [ps_su]
    split
    · omega
    · split <;> omega
theorem ps_xF {x : Nat} {F : Int} (hx : x ≤ 1000) (h1 : -8 ≤ F) (h2 : F ≤ 8) : -8000 ≤ (x : Int) * F ∧ (x : Int) * F ≤ 8000 := by
  have a := Int.mul_le_mul_of_nonneg_left h1 (show (0 : Int) ≤ (x : Int) by omega)
  have b := Int.mul_le_mul_of_nonneg_left h2 (show (0 : Int) ≤ (x : Int) by omega)
  omega
theorem ps_xFyS {x y : Nat} {F S : Int} : nI x * ps_iI F + nI y * ps_iI S = ps_iI ((x : Int) * F + (y : Int) * S) := by
  rw [ps_iI_nI, ps_iI_nI]
  show Int32.ofInt _ * Int32.ofInt _ + Int32.ofInt _ * Int32.ofInt _ = Int32.ofInt _
  rw [Int32.ofInt_add, Int32.ofInt_mul, Int32.ofInt_mul]
theorem ps_rem (a m : Int32) : (a - a / m * m).toInt = a.toInt.tmod m.toInt := rem_toInt a m
theorem ps_mI {m : Nat} (hm : m ≤ 1000) : (nI m).toInt = (m : Int) := nI_toInt (by omega)
/-- the remainder is 0 where m divides -/
theorem ps_dv {z : Int} {m : Nat} (hm : m ≤ 1000) (h1 : -1000000 ≤ z) (h2 : z ≤ 1000000) : (ps_iI z - ps_iI z / nI m * nI m = 0) ↔ (m : Int) ∣ z := by
  rw [← Int32.toInt_inj, ps_rem, ps_iI_t h1 h2, ps_mI hm, show (0 : Int32).toInt = 0 by decide]
  exact ⟨Int.dvd_of_tmod_eq_zero, Int.tmod_eq_zero_of_dvd⟩
def ps_em (z : Int) (m : Nat) : Nat := (z % (m : Int)).toNat
theorem ps_em_lt {z : Int} {m : Nat} (h : 0 < m) : ps_em z m < m := by
  have a := Int.emod_nonneg z (show (m : Int) ≠ 0 by omega)
  have b := Int.emod_lt_of_pos z (show (0 : Int) < m by omega)
  rw [ps_em]
  omega
theorem ps_em_c {z : Int} {m : Nat} (h : 0 < m) : (ps_em z m : Int) = z % (m : Int) := by
  have a := Int.emod_nonneg z (show (m : Int) ≠ 0 by omega)
  rw [ps_em]
  omega
theorem ps_em_eq {z : Int} {m : Nat} (h0 : 0 < m) (hm : m ≤ 1000) (h1 : -1000000 ≤ z) (h2 : z ≤ 1000000) : (ps_iI z - ps_iI z / nI m * nI m + nI m) - (ps_iI z - ps_iI z / nI m * nI m + nI m) / nI m * nI m = nI (ps_em z m) := by
  have t1 := Int.lt_tmod_of_pos z (show (0 : Int) < (m : Int) by omega)
  have t2 := Int.tmod_lt_of_pos z (show (0 : Int) < (m : Int) by omega)
  have e1 : (ps_iI z - ps_iI z / nI m * nI m).toInt = z.tmod m := by rw [ps_rem, ps_iI_t h1 h2, ps_mI hm]
  have e2 : (ps_iI z - ps_iI z / nI m * nI m + nI m).toInt = z.tmod m + m := by
    rw [Int32.toInt_add, e1, ps_mI hm]
    exact Int.bmod_eq_of_le (by omega) (by omega)
  have hl := ps_em_lt (z := z) h0
  apply Int32.toInt_inj.mp
  rw [ps_rem, e2, ps_mI hm, nI_toInt (by omega), ps_em_c h0, Int.tmod_eq_emod_of_nonneg (by omega), Int.add_emod_right, Int.tmod_def, Int.sub_mul_emod_self_left]
theorem ps_em_0 {z : Int} {m : Nat} (h0 : 0 < m) : ps_em z m = 0 ↔ (m : Int) ∣ z := by
  have e := ps_em_c (z := z) h0
  rw [Int.dvd_iff_emod_eq_zero]
  omega
theorem ps_em_add {a b : Int} {m : Nat} (h0 : 0 < m) : ps_em (a + b) m = if m ≤ ps_em a m + ps_em b m then ps_em a m + ps_em b m - m else ps_em a m + ps_em b m := by
  have ha := ps_em_c (z := a) h0
  have hb := ps_em_c (z := b) h0
  have la := ps_em_lt (z := a) h0
  have lb := ps_em_lt (z := b) h0
  have hs := ps_em_c (z := a + b) h0
  rw [Int.add_emod, ← ha, ← hb] at hs
  split
  · rename_i h
    have e : ((ps_em a m : Int) + ps_em b m) % m = (ps_em a m : Int) + ps_em b m - m := by
      rw [← Int.sub_emod_right]
      exact Int.emod_eq_of_lt (by omega) (by omega)
    omega
  · rename_i h
    have e : ((ps_em a m : Int) + ps_em b m) % m = (ps_em a m : Int) + ps_em b m := Int.emod_eq_of_lt (by omega) (by omega)
    omega
def ps_cc (P : Nat → Nat → Bool) (m : Nat) : Nat → Nat
  | 0 => 0
  | x + 1 => ps_cc P m x + ps_cn (P x) m
theorem ps_cc_le (P : Nat → Nat → Bool) (m : Nat) : ∀ x, ps_cc P m x ≤ x * m
  | 0 => by simp [ps_cc]
  | x + 1 => by
    have := ps_cc_le P m x
    have h := ps_cn_le (P x) m
    rw [ps_cc, Nat.succ_mul]
    omega
theorem ps_cn_all {P : Nat → Bool} (h : ∀ i, P i = true) : ∀ m, ps_cn P m = m
  | 0 => rfl
  | m + 1 => by rw [ps_cn, if_pos (h m), ps_cn_all h m]
theorem ps_cc_all {P : Nat → Nat → Bool} (h : ∀ x y, P x y = true) (m : Nat) : ∀ x, ps_cc P m x = x * m
  | 0 => by simp [ps_cc]
  | x + 1 => by rw [ps_cc, ps_cc_all h m x, ps_cn_all (h x), Nat.succ_mul]
def ps_cp (c m : Nat) (F S : Nat → Int) (x y : Nat) : Bool := decide (∀ k, k < c → (m : Int) ∣ (x : Int) * F k + (y : Int) * S k)
end
section
/-! the word and the relators, as numbers -/
def ps_Ru (c : Nat) (ln : Nat → Nat) (rl : Nat → Nat → Nat) (ra lens : Nat → Int32) : Prop := ∀ k, k < c → ln k ≤ 8 ∧ lens k = nI (ln k) ∧ ∀ i, i < ln k → rl k i < 4 ∧ ra (8 * k + i) = nI (rl k i)
def ps_Wo (wn : Nat → Nat) (w : Nat → Int32) : Prop := ∀ i, wn i < 4 ∧ w i = nI (wn i)
theorem ps_Wo_up {wn : Nat → Nat} {w : Nat → Int32} (h : ps_Wo wn w) (k x : Nat) (hx : x < 4) : ps_Wo (ps_up wn k x) (upd w k (nI x)) := by
  intro i
  show (if i = k then x else wn i) < 4 ∧ (if i = k then nI x else w i) = nI (if i = k then x else wn i)
  by_cases e : i = k
  · rw [if_pos e, if_pos e]
    exact ⟨hx, rfl⟩
  · rw [if_neg e, if_neg e]
    exact h i
def ps_in (L : Nat) (wn : Nat → Nat) : Nat → (Nat → Nat)
  | 0 => wn
  | i + 1 => ps_up (ps_up (ps_in L wn i) i (ps_in L wn i (L - 1 - i) ^^^ 1)) (L - 1 - i) (ps_in L wn i i ^^^ 1)
theorem ps_x1 : ∀ v, v < 4 → v ^^^ 1 < 4 := by decide
theorem ps_x1I {v : Nat} : nI v ^^^ 1 = nI (v ^^^ 1) := nx_xor v 1
def ps_wv (wn : Nat → Nat) : Nat → Int32
  | 0 => 1
  | i + 1 => 4 * ps_wv wn i + nI (wn i)
def ps_dr {α : Type} (k t : Nat) (f : Nat → α) (m : Nat) : α := if k ≤ m ∧ m < t then f (m + 1) else f m
theorem ps_dr_0 {α : Type} (k : Nat) (f : Nat → α) : ps_dr k k f = f := by
  funext m
  rw [ps_dr, if_neg (by omega)]
theorem ps_dr_at {α : Type} {k t : Nat} {f : Nat → α} : ps_dr k t f t = f t := by rw [ps_dr, if_neg (by omega)]
theorem ps_dr_n {α : Type} {k t : Nat} {f : Nat → α} : ps_dr k t f (t + 1) = f (t + 1) := by rw [ps_dr, if_neg (by omega)]
theorem ps_dr_s {α : Type} {k t : Nat} (h : k ≤ t) {f : Nat → α} : ps_dr k (t + 1) f t = f (t + 1) := by rw [ps_dr, if_pos (by omega)]
theorem ps_dr_o {α : Type} {k t m : Nat} {f : Nat → α} (h : m ≠ t) : ps_dr k (t + 1) f m = ps_dr k t f m := by
  rw [ps_dr, ps_dr]
  by_cases z : k ≤ m ∧ m < t
  · rw [if_pos z, if_pos (by omega)]
  · rw [if_neg z, if_neg (by omega)]
/-- one row moved down: the length and at least its letters -/
theorem ps_Ru_mv {c k t : Nat} {ln : Nat → Nat} {rl : Nat → Nat → Nat} {ra ra' lens lens' : Nat → Int32} (hk : k ≤ t) (ht : t + 1 < c) (h : ps_Ru c (ps_dr k t ln) (ps_dr k t rl) ra lens) (hl : lens' t = lens (t + 1)) (hlo : ∀ m, m ≠ t → lens' m = lens m) (ha : ∀ i, i < ln (t + 1) → ra' (8 * t + i) = ra (8 * (t + 1) + i)) (hao : ∀ m, m ≠ t → ∀ i, i < 8 → ra' (8 * m + i) = ra (8 * m + i)) : ps_Ru c (ps_dr k (t + 1) ln) (ps_dr k (t + 1) rl) ra' lens' := by
  intro m hm
  by_cases e : m = t
  · subst e
    rw [ps_dr_s hk, ps_dr_s hk, hl]
    have g := h (m + 1) ht
    rw [ps_dr_n, ps_dr_n] at g
    refine ⟨g.1, g.2.1, fun i hi => ⟨(g.2.2 i hi).1, ?_⟩⟩
    rw [ha i hi]
    exact (g.2.2 i hi).2
  · rw [ps_dr_o e, ps_dr_o e, hlo m e]
    have g := h m hm
    refine ⟨g.1, g.2.1, fun i hi => ⟨(g.2.2 i hi).1, ?_⟩⟩
    rw [hao m e i (by omega)]
    exact (g.2.2 i hi).2
theorem ps_Ru_sub {c c' : Nat} {ln : Nat → Nat} {rl : Nat → Nat → Nat} {ra lens : Nat → Int32} (h : ps_Ru c ln rl ra lens) (hc : c' ≤ c) : ps_Ru c' ln rl ra lens := fun k hk => h k (by omega)
/-- one relator more -/
theorem ps_Ru_new {c L : Nat} {ln wn : Nat → Nat} {rl : Nat → Nat → Nat} {ra ra' lens : Nat → Int32} (h : ps_Ru c ln rl ra lens) (hL : L ≤ 8) (hw : ∀ i, wn i < 4) (ha : ∀ i, i < L → ra' (8 * c + i) = nI (wn i)) (hao : ∀ j, j < 8 * c → ra' j = ra j) : ps_Ru (c + 1) (ps_up ln c L) (fun k => if k = c then wn else rl k) ra' (upd lens c (nI L)) := by
  intro k hk
  show (if k = c then L else ln k) ≤ 8 ∧ (if k = c then nI L else lens k) = nI (if k = c then L else ln k) ∧ ∀ i, i < (if k = c then L else ln k) → (if k = c then wn else rl k) i < 4 ∧ ra' (8 * k + i) = nI ((if k = c then wn else rl k) i)
  by_cases e : k = c
  · rw [if_pos e, if_pos e, if_pos e]
    subst e
    exact ⟨hL, rfl, fun i hi => ⟨hw i, ha i hi⟩⟩
  · rw [if_neg e, if_neg e, if_neg e]
    have g := h k (by omega)
    refine ⟨g.1, g.2.1, fun i hi => ⟨(g.2.2 i hi).1, ?_⟩⟩
    rw [hao _ (by omega)]
    exact (g.2.2 i hi).2
/-- which keys are tables in which the relators hold -/
def ps_G (n c : Nat) (ln : Nat → Nat) (rl : Nat → Nat → Nat) (K : Nat) : Bool := ps_isT n (ps_gk n K) && ps_hb n c ln rl (ps_gk n K)
def ps_H (n c : Nat) (ln : Nat → Nat) (rl : Nat → Nat → Nat) (K : Nat) : Bool := ps_hb n c ln rl (ps_gk n K)
def ps_YC (c : Nat) (ln : Nat → Nat) (rl : Nat → Nat → Nat) (kn an tb : Nat → Int32) (ks : Nat → Int64) : Prop := ∀ n, 0 < n → n ≤ 5 → kn n = 0 ∨ (kn n = 1 ∧ an n = nI ((ps_XL n).countP (ps_H n c ln rl)) ∧ tb n = nI (ps_TL n (ps_G n c ln rl)).length ∧ ps_Ar ks (461 * n) ((ps_TL n (ps_G n c ln rl)).map (ps_cv (4 * n))))
theorem ps_G_T {n c : Nat} {ln : Nat → Nat} {rl : Nat → Nat → Nat} (K : Nat) (h : ps_G n c ln rl K = true) : ps_isT n (ps_gk n K) = true := by
  rw [ps_G, Bool.and_eq_true] at h
  exact h.1
theorem ps_TL_len {n c : Nat} {ln : Nat → Nat} {rl : Nat → Nat → Nat} (h0 : 0 < n) (hn : n ≤ 5) : (ps_TL n (ps_G n c ln rl)).length ≤ 461 := by
  rw [(ps_TL_perm n _).length_eq]
  exact ps_pre_le (fun K h => ps_G_T K h) (Nat.le_refl _) (ev_cnt h0 hn)
/-- images, on both sides -/
def ps_XI (a : Nat → Int32) (n : Nat) (g : Nat → Nat → Nat) : Prop := ∀ l, l < 4 → ∀ p, p < n → a (4 * p + l) = nI (g l p)
def ps_YI (a : Nat → Int32) (n : Nat) (g : Nat → Nat → Nat) : Prop := ∀ l, l < 4 → ∀ p, p < n → a (5 * l + p) = nI (g l p)
theorem ps_XI_c {a : Nat → Int32} {n : Nat} {g g' : Nat → Nat → Nat} (h : ps_XI a n g) (e : ∀ l, l < 4 → ∀ p, p < n → g' l p = g l p) : ps_XI a n g' := fun l hl p hp => by rw [e l hl p hp]; exact h l hl p hp
theorem ps_YI_c {a : Nat → Int32} {n : Nat} {g g' : Nat → Nat → Nat} (h : ps_YI a n g) (e : ∀ l, l < 4 → ∀ p, p < n → g' l p = g l p) : ps_YI a n g' := fun l hl p hp => by rw [e l hl p hp]; exact h l hl p hp
def ps_b (b : Bool) : Int32 := if b then 1 else 0
end
section
/-! reading, writing, indexes -/
theorem ps_rd {a : Nat → Int32} {e v : Int32} {j : Nat} (he : e = nI j) (hj : j < 2 ^ 31) (hv : a j = v) : a e.toNatClampNeg = v := by rw [he, nI_clamp hj]; exact hv
theorem ps_rdL {a : Nat → Int64} {e : Int32} {v : Int64} {j : Nat} (he : e = nI j) (hj : j < 2 ^ 31) (hv : a j = v) : a e.toNatClampNeg = v := by rw [he, nI_clamp hj]; exact hv
theorem ps_wr {a : Nat → Int32} {e v v' : Int32} {j : Nat} (he : e = nI j) (hj : j < 2 ^ 31) (hv : v = v') : upd a e.toNatClampNeg v = upd a j v' := by rw [he, nI_clamp hj, hv]
theorem ps_wrL {a : Nat → Int64} {e : Int32} {v v' : Int64} {j : Nat} (he : e = nI j) (hj : j < 2 ^ 31) (hv : v = v') : vp_updL a e.toNatClampNeg v = vp_updL a j v' := by rw [he, nI_clamp hj, hv]
theorem ps_ix4 (p l : Nat) : nI p * 4 + nI l = nI (4 * p + l) := by
  rw [show (4 : Int32) = nI 4 from rfl, pk_mul, nI_add, Nat.mul_comm]
theorem ps_ix8 (p l : Nat) : nI p * 8 + nI l = nI (8 * p + l) := by
  rw [show (8 : Int32) = nI 8 from rfl, pk_mul, nI_add, Nat.mul_comm]
theorem ps_m8 (p : Nat) : nI p * 8 = nI (8 * p) := by
  rw [show (8 : Int32) = nI 8 from rfl, pk_mul, Nat.mul_comm]
theorem ps_m4 (p : Nat) : nI p * 4 = nI (4 * p) := by
  rw [show (4 : Int32) = nI 4 from rfl, pk_mul, Nat.mul_comm]
theorem ps_5m (p : Nat) : 5 * nI p = nI (5 * p) := by
  rw [show (5 : Int32) = nI 5 from rfl, pk_mul]
theorem ps_8m (p : Nat) : 8 * nI p = nI (8 * p) := by
  rw [show (8 : Int32) = nI 8 from rfl, pk_mul]
theorem ps_46 (p : Nat) : 461 * nI p = nI (461 * p) := by
  rw [show (461 : Int32) = nI 461 from rfl, pk_mul]
theorem ps_5x (p l : Nat) : 5 * nI p + nI l = nI (5 * p + l) := by rw [ps_5m, nI_add]
theorem ps_8x (p l : Nat) : 8 * nI p + nI l = nI (8 * p + l) := by rw [ps_8m, nI_add]
theorem ps_46x (p l : Nat) : 461 * nI p + nI l = nI (461 * p + l) := by rw [ps_46, nI_add]
theorem ps_m1 {p : Nat} (h : 0 < p) : nI p - 1 = nI (p - 1) := by
  obtain ⟨q, rfl⟩ : ∃ q, p = q + 1 := ⟨p - 1, by omega⟩
  exact nI_pred q
theorem ps_n1 {p : Nat} (h : 0 < p) : nI p + (-1) = nI (p - 1) := by
  obtain ⟨q, rfl⟩ : ∃ q, p = q + 1 := ⟨p - 1, by omega⟩
  exact pk_m1 q
theorem ps_upd_ne {a : Nat → Int32} {k j : Nat} {x v : Int32} (h : j ≠ k) (hv : a j = v) : upd a k x j = v := (pk_un h).trans hv
end
section
/-! what the questions ask of a table -/
theorem ps_mk_lt {n : Nat} (h0 : 0 < n) (hn : n ≤ 5) (code : Nat) : ∀ i, ps_mk n code i < 2 ^ 5
  | 0 => by simp [ps_mk]
  | i + 1 => by
    have h := ps_mk_lt h0 hn code i
    have d : code / n ^ i % n < n := Nat.mod_lt _ h0
    rw [ps_mk]
    exact Nat.or_lt_two_pow h (Nat.pow_lt_pow_right (by decide) (by omega))
def ps_al (n K : Nat) : Bool := decide (∀ s, s < n → 0 < s → ps_rn n (ps_gk n K) s = some K)
def ps_ltO (n K s : Nat) : Bool := match ps_rn n (ps_gk n K) s with
  | none => false
  | some R => decide (R < K)
def ps_fi (n K : Nat) : Bool := decide (∀ s, s < n → 0 < s → ps_ltO n K s = false)
def ps_fx (wn : Nat → Nat) (L n K : Nat) : Bool := decide (ps_wk (ps_gk n K) wn L 0 = 0)
def ps_wa (wn : Nat → Nat) (L n K : Nat) : Bool := decide (∀ p, p < n → ps_wk (ps_gk n K) wn L p = p)
/-- what is known of a table in the list -/
theorem ps_TLFa {n c : Nat} {ln : Nat → Nat} {rl : Nat → Nat → Nat} {k : Nat} (h0 : 0 < n) (hn : n ≤ 5) (hk : k < (ps_TL n (ps_G n c ln rl)).length) : ps_Fa n ((ps_TL n (ps_G n c ln rl)).getD k 0) ∧ ∀ s, s < n → ∃ R, ps_rn n (ps_gk n ((ps_TL n (ps_G n c ln rl)).getD k 0)) s = some R ∧ ps_D5 (4 * n) R := by
  have h := ps_TL_mem (ps_gIn (d := 0) hk)
  exact ⟨ev_XLFa h0 hn h.1, fun s hs => ev_rn h0 hn h.1 (ps_G_T _ h.2) hs⟩
theorem ps_p8 {n : Nat} (hn : n ≤ 5) : 8 ^ (4 * n) < 2 ^ 61 := by
  have : 8 ^ (4 * n) ≤ 8 ^ (4 * 5) := Nat.pow_le_pow_right (by decide) (by omega)
  exact Nat.lt_of_le_of_lt this (by decide)
theorem ps_p5 {n : Nat} (hn : n ≤ 5) : 5 ^ (4 * n) < 2 ^ 61 := by
  have : 5 ^ (4 * n) ≤ 5 ^ (4 * 5) := Nat.pow_le_pow_right (by decide) (by omega)
  exact Nat.lt_of_le_of_lt this (by decide)
theorem ps_K8 {n K : Nat} (hn : n ≤ 5) (h : ps_D5 (4 * n) K) : K < 2 ^ 61 := Nat.lt_trans (ps_D5_8 _ _ h) (ps_p8 hn)
theorem ps_K5 {n K : Nat} (hn : n ≤ 5) (h : ps_D5 (4 * n) K) : ps_cv (4 * n) K < 2 ^ 61 := Nat.lt_trans (ps_cv_5 _ _ h) (ps_p5 hn)
/-- the keys kept after t pairs -/
def ps_Kp (e : Nat → Nat) (G : Nat → Bool) (f : Nat → Nat) (t : Nat) (L : List Nat) : Prop := L.Pairwise (· ≤ ·) ∧ L.Perm ((((List.range t).map e).filter G).map f)
theorem ps_Kp_0 (e : Nat → Nat) (G : Nat → Bool) (f : Nat → Nat) : ps_Kp e G f 0 [] := ⟨List.Pairwise.nil, List.Perm.refl _⟩
theorem ps_Kp_ft {e : Nat → Nat} {G : Nat → Bool} {t : Nat} (h : G (e t) = true) : ((List.range (t + 1)).map e).filter G = ((List.range t).map e).filter G ++ [e t] := by
  rw [ps_pre_s, List.filter_append]
  congr 1
  rw [List.filter_cons, if_pos h]
  rfl
theorem ps_Kp_ff {e : Nat → Nat} {G : Nat → Bool} {t : Nat} (h : ¬ G (e t) = true) : ((List.range (t + 1)).map e).filter G = ((List.range t).map e).filter G := by
  rw [ps_pre_s, List.filter_append, List.filter_cons, if_neg h]
  exact List.append_nil _
theorem ps_Kp_y {e : Nat → Nat} {G : Nat → Bool} {f : Nat → Nat} {t : Nat} {L L' : List Nat} (h : G (e t) = true) (hK : ps_Kp e G f t L) (hs : L'.Pairwise (· ≤ ·)) (hp : L'.Perm (f (e t) :: L)) : ps_Kp e G f (t + 1) L' := by
  refine ⟨hs, ?_⟩
  rw [ps_Kp_ft h, List.map_append]
  exact (hp.trans (hK.2.cons _)).trans (List.perm_append_singleton _ _).symm
theorem ps_Kp_n {e : Nat → Nat} {G : Nat → Bool} {f : Nat → Nat} {t : Nat} {L : List Nat} (h : ¬ G (e t) = true) (hK : ps_Kp e G f t L) : ps_Kp e G f (t + 1) L := by
  refine ⟨hK.1, ?_⟩
  rw [ps_Kp_ff h]
  exact hK.2
theorem ps_Kp_len {e : Nat → Nat} {G H : Nat → Bool} {f : Nat → Nat} {t M b : Nat} {L : List Nat} (hGH : ∀ K, G K = true → H K = true) (ht : t ≤ M) (hb : ((List.range M).map e).countP H ≤ b) (hK : ps_Kp e G f t L) : L.length ≤ b := by
  rw [hK.2.length_eq, List.length_map]
  exact ps_pre_le hGH ht hb
theorem ps_Kp_room {e : Nat → Nat} {G H : Nat → Bool} {f : Nat → Nat} {t M b : Nat} {L : List Nat} (hGH : ∀ K, G K = true → H K = true) (ht : t < M) (hb : ((List.range M).map e).countP H ≤ b) (hK : ps_Kp e G f t L) (h : G (e t) = true) : L.length < b := by
  have h1 := ps_pre_le (t := t + 1) hGH ht hb
  rw [ps_Kp_ft h, List.length_append, List.length_singleton] at h1
  rw [hK.2.length_eq, List.length_map]
  omega
theorem ps_cntY {n : Nat} (h0 : 0 < n) (hn : n ≤ 5) : (ps_YL n).countP (fun K => ps_isT n (ps_gk n K)) ≤ 461 := by
  rw [← (ps_XY (ev_perm h0 hn)).countP_eq]
  exact ev_cnt h0 hn
theorem ps_KpX {n : Nat} {G : Nat → Bool} {L : List Nat} (hK : ps_Kp (ps_eX n) G (fun K => K) (ps_fa n * ps_fa n) L) : L = ps_TL n G := by
  have h := hK.2
  rw [List.map_id'] at h
  exact ps_TL_X hK.1 h
theorem ps_KpY {n : Nat} (h0 : 0 < n) (hn : n ≤ 5) {G : Nat → Bool} {L : List Nat} (hK : ps_Kp (ps_eY n) G (ps_cv (4 * n)) ((ps_cY n).length * (ps_cY n).length) L) : L = (ps_TL n G).map (ps_cv (4 * n)) :=
  ps_TL_Y (fun K h => (ev_XLFa h0 hn h).2.2) (ps_XY (ev_perm h0 hn)) hK.1 hK.2
end
section
/-! the component's small methods -/
section
variable {L c : Nat} {tc : Int32} {w ra le im nn mp fs ss : Nat → Int32} {tk : Nat → Int64}
theorem xx_isL_b {post : Int32 → Prop} {v : Int32} (h : v < 0 ∨ nI 4 ≤ v) (k : post 0) : wpX_isLetter post (nI L, nI c, tc, w, ra, le, im, tk, nn, mp, fs, ss) v := by
  by_cases z : v < 0
  · exact br_t z k
  · rcases h with h | h
    · exact absurd h z
    · exact br_f z (br_t h k)
theorem xx_isL_o {post : Int32 → Prop} {l : Nat} (hl : l < 4) (k : post 1) : wpX_isLetter post (nI L, nI c, tc, w, ra, le, im, tk, nn, mp, fs, ss) (nI l) :=
  br_f (nI_pos (by omega)) (br_f (nI_ge (b := 4) hl (by decide)) k)
theorem xx_letter_b {post : Int32 → SX → Prop} {v : Int32} (h : v < 0 ∨ nI 4 ≤ v) (k : post (-1) (nI L, nI c, tc, w, ra, le, im, tk, nn, mp, fs, ss)) : wpX_letter post (nI L, nI c, tc, w, ra, le, im, tk, nn, mp, fs, ss) v := by
  unfold wpX_letter
  dsimp only
  exact xx_isL_b h (br_t rfl k)
theorem xx_letter_f {post : Int32 → SX → Prop} {l : Nat} (hl : l < 4) (hL : L = 8) (k : post (-2) (nI L, nI c, tc, w, ra, le, im, tk, nn, mp, fs, ss)) : wpX_letter post (nI L, nI c, tc, w, ra, le, im, tk, nn, mp, fs, ss) (nI l) := by
  unfold wpX_letter
  dsimp only
  exact xx_isL_o hl (br_f (by decide) (br_f (nI_nlt (b := 8) (by omega) (by omega)) k))
theorem xx_letter_o {post : Int32 → SX → Prop} {l : Nat} (hl : l < 4) (hL : L < 8) (k : post (nI (L + 1)) (nI (L + 1), nI c, tc, upd w L (nI l), ra, le, im, tk, nn, mp, fs, ss)) : wpX_letter post (nI L, nI c, tc, w, ra, le, im, tk, nn, mp, fs, ss) (nI l) := by
  unfold wpX_letter
  dsimp only
  exact xx_isL_o hl (br_f (by decide) (br_t (nI_lt (b := 8) hL (by decide)) ⟨vp_in_nI hL (by decide), nm_r (ps_wr rfl (by omega) rfl) (nm_r (nI_1 L) k)⟩))
theorem xx_clear {post : Int32 → SX → Prop} (k : post (nI L) (nI 0, nI c, tc, w, ra, le, im, tk, nn, mp, fs, ss)) : wpX_clear post (nI L, nI c, tc, w, ra, le, im, tk, nn, mp, fs, ss) := k
theorem xx_inv2 {post : Int32 → SX → Prop} {wn : Nat → Nat} (hL : L ≤ 8) (K : ∀ w', ps_Wo (ps_in L wn ((L + 1) / 2)) w' → post (nI L) (nI L, nI c, tc, w', ra, le, im, tk, nn, mp, fs, ss)) : ∀ d i w', i + d = (L + 1) / 2 → ps_Wo (ps_in L wn i) w' → wX_invert_2 post (nI L) (nI c) tc (d + 1) (nI i) w' ra le im tk nn mp fs ss := by
  have e2 : (nI L + 1) / 2 = nI ((L + 1) / 2) := by
    rw [nI_1]
    exact pk_div (a := L + 1) (d := 2) (by omega) (by decide) (by decide)
  intro d
  induction d with
  | zero =>
    intro i w' hi h
    obtain rfl : i = (L + 1) / 2 := by omega
    exact ⟨by decide, br_t (by rw [e2]; exact nI_le (by omega) (by omega)) (K w' h)⟩
  | succ d ih =>
    intro i w' hi h
    have ci : (nI i).toNatClampNeg = i := nI_clamp (by omega)
    have cj : (nI (L - 1 - i)).toNatClampNeg = L - 1 - i := nI_clamp (by omega)
    have vi : vp_in (nI i) 8 := vp_in_nI (by omega) (by decide)
    have vj : vp_in (nI (L - 1 - i)) 8 := vp_in_nI (by omega) (by decide)
    have ej : (nI L - 1) - nI i = nI (L - 1 - i) := by rw [ps_m1 (by omega), pk_sub (by omega)]
    have hq := ih (i + 1) _ (by omega) (ps_Wo_up (ps_Wo_up h i _ (ps_x1 _ (h (L - 1 - i)).1)) (L - 1 - i) _ (ps_x1 _ (h i).1))
    refine ⟨by decide, br_f (by rw [e2]; exact nI_ge (by omega) (by omega)) (nm_r ej ⟨vi, ⟨vj, ⟨vi, nm_r (e' := upd w' i (nI (ps_in L wn i (L - 1 - i) ^^^ 1))) ?_ ⟨vj, nm_r (e' := upd (upd w' i (nI (ps_in L wn i (L - 1 - i) ^^^ 1))) (L - 1 - i) (nI (ps_in L wn i i ^^^ 1))) ?_ (nm_r (nI_1 i) hq)⟩⟩⟩⟩)⟩
    · rw [ci, cj, (h _).2, ps_x1I]
    · rw [ci, cj, (h i).2, ps_x1I]
theorem xx_invert {post : Int32 → SX → Prop} {wn : Nat → Nat} (hL : L ≤ 8) (hw : ps_Wo wn w) (K : ∀ w', ps_Wo (ps_in L wn ((L + 1) / 2)) w' → post (nI L) (nI L, nI c, tc, w', ra, le, im, tk, nn, mp, fs, ss)) : wpX_invert post (nI L, nI c, tc, w, ra, le, im, tk, nn, mp, fs, ss) :=
  ⟨(L + 1) / 2 + 1, xx_inv2 hL K ((L + 1) / 2) 0 w (by omega) hw⟩
theorem xx_rel13 {post : Int32 → SX → Prop} {wn : Nat → Nat} (hL : L ≤ 8) (hc : c < 4) (hw : ps_Wo wn w) (K : ∀ ra', (∀ i, i < L → ra' (8 * c + i) = nI (wn i)) → (∀ j, j < 8 * c → ra' j = ra j) → post (nI (c + 1)) (nI L, nI (c + 1), tc, w, ra', upd le c (nI L), im, tk, nn, mp, fs, ss)) : ∀ d i ra', i + d = L → (∀ j, j < i → ra' (8 * c + j) = nI (wn j)) → (∀ j, j < 8 * c → ra' j = ra j) → wX_relate_13 post (nI L) (nI c) tc (d + 1) (nI i) w ra' le im tk nn mp fs ss := by
  intro d
  induction d with
  | zero =>
    intro i ra' hi h1 h2
    obtain rfl : i = L := by omega
    exact br_t (nI_le (by omega) (by omega)) ⟨vp_in_nI hc (by decide), nm_r (ps_wr rfl (by omega) rfl) (nm_r (nI_1 c) (K ra' h1 h2))⟩
  | succ d ih =>
    intro i ra' hi h1 h2
    refine br_f (nI_ge (by omega) (by omega)) ⟨vp_in_nI (by omega) (by decide), ⟨pk_in (8 * c + i) 32 (by omega) (ps_ix8 c i), nm_r (e' := upd ra' (8 * c + i) (nI (wn i))) (ps_wr (ps_ix8 c i) (by omega) (ps_rd rfl (by omega) (hw i).2)) (nm_r (nI_1 i) (ih (i + 1) _ (by omega) ?_ ?_))⟩⟩
    · intro j hj
      by_cases e : j = i
      · subst e
        exact pk_us
      · rw [pk_un (by omega)]
        exact h1 j (by omega)
    · intro j hj
      rw [pk_un (by omega)]
      exact h2 j hj
theorem xx_relate_f {post : Int32 → SX → Prop} (hc : c = 4) (k : post (-2) (nI L, nI c, tc, w, ra, le, im, tk, nn, mp, fs, ss)) : wpX_relate post (nI L, nI c, tc, w, ra, le, im, tk, nn, mp, fs, ss) := br_f (nI_nlt (b := 4) (by omega) (by omega)) k
theorem xx_relate_o {post : Int32 → SX → Prop} {wn ln : Nat → Nat} {rl : Nat → Nat → Nat} (hL : L ≤ 8) (hc : c < 4) (hw : ps_Wo wn w) (hr : ps_Ru c ln rl ra le) (K : ∀ ra' le', ps_Ru (c + 1) (ps_up ln c L) (fun k => if k = c then wn else rl k) ra' le' → post (nI (c + 1)) (nI L, nI (c + 1), tc, w, ra', le', im, tk, nn, mp, fs, ss)) : wpX_relate post (nI L, nI c, tc, w, ra, le, im, tk, nn, mp, fs, ss) :=
  br_t (nI_lt (b := 4) hc (by decide)) ⟨L + 1, xx_rel13 hL hc hw (fun ra' h1 h2 => K ra' _ (ps_Ru_new hr hL (fun i => (hw i).1) h1 h2)) L 0 ra (by omega) (fun j hj => by omega) (fun _ _ => rfl)⟩
theorem xx_mv6 {post : SX → Prop} {t m : Nat} (ht : t + 1 < 4) (hm : le (t + 1) = nI m) (hm8 : m ≤ 8) (K : ∀ ra', (∀ i, i < m → ra' (8 * t + i) = ra (8 * (t + 1) + i)) → (∀ j, ¬ (8 * t ≤ j ∧ j < 8 * t + 8) → ra' j = ra j) → post (nI L, nI c, tc, w, ra', upd le t (nI m), im, tk, nn, mp, fs, ss)) : ∀ d i ra', i + d = m → (∀ j, j < i → ra' (8 * t + j) = ra (8 * (t + 1) + j)) → (∀ j, ¬ (8 * t ≤ j ∧ j < 8 * t + 8) → ra' j = ra j) → wX_moveRelatorDownTo_6 post (nI t) (nI (t + 1)) (nI L) (nI c) tc (d + 1) (nI i) w ra' le im tk nn mp fs ss := by
  have vt : vp_in (nI t) 4 := vp_in_nI (by omega) (by decide)
  have v1 : vp_in (nI (t + 1)) 4 := vp_in_nI (by omega) (by decide)
  have el : le (nI (t + 1)).toNatClampNeg = nI m := ps_rd rfl (by omega) hm
  intro d
  induction d with
  | zero =>
    intro i ra' hi h1 h2
    obtain rfl : i = m := by omega
    exact ⟨v1, br_t (by rw [el]; exact nI_le (by omega) (by omega)) ⟨v1, ⟨vt, nm_r (ps_wr rfl (by omega) el) (K ra' h1 h2)⟩⟩⟩
  | succ d ih =>
    intro i ra' hi h1 h2
    refine ⟨v1, br_f (by rw [el]; exact nI_ge (by omega) (by omega)) ⟨pk_in (8 * (t + 1) + i) 32 (by omega) (ps_ix8 (t + 1) i), ⟨pk_in (8 * t + i) 32 (by omega) (ps_ix8 t i), nm_r (e' := upd ra' (8 * t + i) (ra (8 * (t + 1) + i))) (ps_wr (ps_ix8 t i) (by omega) (ps_rd (ps_ix8 (t + 1) i) (by omega) (h2 _ (by omega)))) (nm_r (nI_1 i) (ih (i + 1) _ (by omega) ?_ ?_))⟩⟩⟩
    · intro j hj
      by_cases e : j = i
      · subst e
        exact pk_us
      · rw [pk_un (by omega)]
        exact h1 j (by omega)
    · intro j hj
      rw [pk_un (by omega)]
      exact h2 j hj
theorem xx_move {post : SX → Prop} {t m : Nat} (ht : t + 1 < 4) (hm : le (t + 1) = nI m) (hm8 : m ≤ 8) (K : ∀ ra', (∀ i, i < m → ra' (8 * t + i) = ra (8 * (t + 1) + i)) → (∀ j, ¬ (8 * t ≤ j ∧ j < 8 * t + 8) → ra' j = ra j) → post (nI L, nI c, tc, w, ra', upd le t (nI m), im, tk, nn, mp, fs, ss)) : wpX_moveRelatorDownTo post (nI L, nI c, tc, w, ra, le, im, tk, nn, mp, fs, ss) (nI t) :=
  nm_r (nI_1 t) ⟨m + 1, xx_mv6 ht hm hm8 K m 0 ra (by omega) (fun j hj => by omega) (fun _ _ => rfl)⟩
theorem xx_drop17 {post : Int32 → SX → Prop} {k : Nat} {ln : Nat → Nat} {rl : Nat → Nat → Nat} (hc : c ≤ 4) (h0 : 0 < c) (K : ∀ ra' le', ps_Ru (c - 1) (ps_dr k (c - 1) ln) (ps_dr k (c - 1) rl) ra' le' → post (nI (c - 1)) (nI L, nI (c - 1), tc, w, ra', le', im, tk, nn, mp, fs, ss)) : ∀ d t (ra le : Nat → Int32), k ≤ t → t + d = c - 1 → ps_Ru c (ps_dr k t ln) (ps_dr k t rl) ra le → wX_drop_17 post (d + 1) (nI t) (nI L) (nI c) tc w ra le im tk nn mp fs ss := by
  have e1 : nI c - 1 = nI (c - 1) := ps_m1 h0
  intro d
  induction d with
  | zero =>
    intro t ra le hk ht h
    obtain rfl : t = c - 1 := by omega
    exact br_t (by rw [e1]; exact nI_le (by omega) (by omega)) (nm_r e1 (K ra le (ps_Ru_sub h (by omega))))
  | succ d ih =>
    intro t ra le hk ht h
    have g := h (t + 1) (by omega)
    refine br_f (by rw [e1]; exact nI_ge (by omega) (by omega)) (xx_move (m := ps_dr k t ln (t + 1)) (by omega) g.2.1 g.1 (fun ra' h1 h2 => nm_r (nI_1 t) (ih (t + 1) _ _ (by omega) (by omega) (ps_Ru_mv hk (by omega) h ?_ ?_ ?_ ?_))))
    · rw [pk_us]
      exact g.2.1.symm
    · intro m hm
      exact pk_un hm
    · intro i hi
      rw [ps_dr_n] at h1
      exact h1 i hi
    · intro m hm i hi
      exact h2 _ (by omega)
theorem xx_drop_b {post : Int32 → SX → Prop} {v : Int32} (h : v < 0 ∨ nI c ≤ v) (k : post (-4) (nI L, nI c, tc, w, ra, le, im, tk, nn, mp, fs, ss)) : wpX_drop post (nI L, nI c, tc, w, ra, le, im, tk, nn, mp, fs, ss) v := by
  by_cases z : v < 0
  · exact br_t z k
  · rcases h with h | h
    · exact absurd h z
    · exact br_f z (br_f (Int32.not_lt.mpr h) k)
theorem xx_drop_o {post : Int32 → SX → Prop} {k : Nat} {ln : Nat → Nat} {rl : Nat → Nat → Nat} (hk : k < c) (hc : c ≤ 4) (hr : ps_Ru c ln rl ra le) (K : ∀ ra' le', ps_Ru (c - 1) (ps_dr k (c - 1) ln) (ps_dr k (c - 1) rl) ra' le' → post (nI (c - 1)) (nI L, nI (c - 1), tc, w, ra', le', im, tk, nn, mp, fs, ss)) : wpX_drop post (nI L, nI c, tc, w, ra, le, im, tk, nn, mp, fs, ss) (nI k) :=
  br_f (nI_pos (by omega)) (br_t (nI_lt hk (by omega)) ⟨c - 1 - k + 1, xx_drop17 hc (by omega) K (c - 1 - k) k ra le (Nat.le_refl _) (by omega) (by rw [ps_dr_0, ps_dr_0]; exact hr)⟩)
theorem xx_word4 {post : Int32 → Prop} {wn : Nat → Nat} (hL : L ≤ 8) (hw : ps_Wo wn w) (K : post (ps_wv wn L)) : ∀ d i, i + d = L → wX_word_4 post (nI L) (nI c) tc w ra le im tk nn mp fs ss (d + 1) (ps_wv wn i) (nI i) := by
  intro d
  induction d with
  | zero =>
    intro i hi
    obtain rfl : i = L := by omega
    exact br_t (nI_le (by omega) (by omega)) K
  | succ d ih =>
    intro i hi
    exact br_f (nI_ge (by omega) (by omega)) ⟨vp_in_nI (by omega) (by decide), nm_r (e' := ps_wv wn (i + 1)) (by rw [ps_rd rfl (by omega) (hw i).2, ps_wv]) (nm_r (nI_1 i) (ih (i + 1) (by omega)))⟩
theorem xx_word {post : Int32 → Prop} {wn : Nat → Nat} (hL : L ≤ 8) (hw : ps_Wo wn w) (K : post (ps_wv wn L)) : wpX_word post (nI L, nI c, tc, w, ra, le, im, tk, nn, mp, fs, ss) := ⟨L + 1, xx_word4 hL hw K L 0 (by omega)⟩
theorem xx_isP_b {post : Int32 → Prop} {v : Int32} (h : v < 1 ∨ 5 < v) (k : post 0) : wpX_isPointCount post (nI L, nI c, tc, w, ra, le, im, tk, nn, mp, fs, ss) v := by
  by_cases z : v < 1
  · exact br_t z k
  · rcases h with h | h
    · exact absurd h z
    · exact br_f z (br_t h k)
theorem xx_isP_o {post : Int32 → Prop} {n : Nat} (h0 : 0 < n) (hn : n ≤ 5) (k : post 1) : wpX_isPointCount post (nI L, nI c, tc, w, ra, le, im, tk, nn, mp, fs, ss) (nI n) :=
  br_f (nI_nlt (b := 1) (by omega) (by omega)) (br_f (nI_nlt (a := 5) hn (by decide)) k)
theorem xx_isTN_b {post : Int32 → Prop} {v : Int32} {T : Nat} (h : v < 0 ∨ nI T ≤ v) (k : post 0) : wpX_isTableNumber post (nI L, nI c, nI T, w, ra, le, im, tk, nn, mp, fs, ss) v := by
  by_cases z : v < 0
  · exact br_t z k
  · rcases h with h | h
    · exact absurd h z
    · exact br_f z (br_t h k)
theorem xx_isTN_o {post : Int32 → Prop} {k T : Nat} (hk : k < T) (hT : T ≤ 461) (q : post 1) : wpX_isTableNumber post (nI L, nI c, nI T, w, ra, le, im, tk, nn, mp, fs, ss) (nI k) :=
  br_f (nI_pos (by omega)) (br_f (nI_ge hk (by omega)) q)
end
end
section
/-! the component's search -/
def ps_Cl (a : Nat → Int32) (n o : Nat) (f : List Nat) : Prop := ∀ p, p < n → a (4 * p + o) = nI (ps_fn f p) ∧ a (4 * p + (o + 1)) = nI (ps_iv (ps_fn f) n p)
theorem ps_Cl_XI {a : Nat → Int32} {n : Nat} {f h : List Nat} (hf : ps_Cl a n 0 f) (hh : ps_Cl a n 2 h) : ps_XI a n (ps_ac n f h) := by
  intro l hl p hp
  match l, hl with
  | 0, _ => exact (hf p hp).1
  | 1, _ => exact (hf p hp).2
  | 2, _ => exact (hh p hp).1
  | 3, _ => exact (hh p hp).2
theorem ps_shl3 (m : Nat) {v : Nat} (hv : v < 2 ^ 31) : (lN m <<< ((3 : Int32).toInt64 &&& 63)) + (nI v).toInt64 = lN (8 * m + v) := by
  have e : lN m <<< ((3 : Int32).toInt64 &&& 63) = lN (m * 2 ^ 3) := wb_shl m (k := 3) (by decide)
  rw [e, nI_l hv, lN_add, Nat.mul_comm]
section
variable {L c : Nat} {tc : Int32} {w ra le im nn mp fs ss : Nat → Int32} {tk : Nat → Int64}
theorem xx_perm4 {post : Int32 → Prop} {n : Nat} (hn : n ≤ 5) (K : post (nI (ps_fa n))) : ∀ d j, j + d = n → wX_permutationsOf_4 post (nI n) (nI L) (nI c) tc w ra le im tk nn mp fs ss (d + 1) (nI (ps_fa j)) (nI (j + 1)) := by
  intro d
  induction d with
  | zero =>
    intro j hj
    obtain rfl : j = n := by omega
    exact br_t (nI_lt (by omega) (by omega)) K
  | succ d ih =>
    intro j hj
    exact br_f (nI_nlt (by omega) (by omega)) (nm_r (e' := nI (ps_fa (j + 1))) (by rw [pk_mul, ps_fa, Nat.mul_comm]) (nm_r (nI_1 (j + 1)) (ih (j + 1) (by omega))))
theorem xx_perm {post : Int32 → Prop} {n : Nat} (h0 : 0 < n) (hn : n ≤ 5) (K : post (nI (ps_fa n))) : wpX_permutationsOf post (nI L, nI c, tc, w, ra, le, im, tk, nn, mp, fs, ss) (nI n) :=
  ⟨n - 1 + 1, xx_perm4 hn K (n - 1) 1 (by omega)⟩
theorem xx_sg116 {post : SX → Prop} {n o : Nat} {f : Nat → Nat} {a0 : Nat → Int32} (hn : n ≤ 5) (ho : o = 0 ∨ o = 2) (hf : ∀ p, p < n → f p < n) (hi : ∀ p, p < n → ∀ q, q < n → f p = f q → p = q) (K : ∀ a', (∀ p, p < n → a' (4 * p + o) = nI (f p)) → (∀ p, p < n → a' (4 * f p + (o + 1)) = nI p) → (∀ j, j % 4 ≠ o → j % 4 ≠ o + 1 → a' j = a0 j) → post (nI L, nI c, tc, w, ra, le, a', tk, nn, mp, fs, ss)) : ∀ d i a', i + d = n → (∀ p, p < n → a' (4 * p + o) = nI (f p)) → (∀ p, p < i → a' (4 * f p + (o + 1)) = nI p) → (∀ j, j % 4 ≠ o → j % 4 ≠ o + 1 → a' j = a0 j) → wX_setGenerator_116 post (nI n) (nI o) (nI L) (nI c) tc (d + 1) (nI i) w ra le a' tk nn mp fs ss := by
  have eo : nI o ^^^ 1 = nI (o + 1) := by rcases ho with rfl | rfl <;> decide
  intro d
  induction d with
  | zero =>
    intro i a' h1 h2 h3 h4
    obtain rfl : i = n := by omega
    exact br_t (nI_le (by omega) (by omega)) (K a' h2 h3 h4)
  | succ d ih =>
    intro i a' h1 h2 h3 h4
    have hfi := hf i (by omega)
    have ex : nI (f i) * 4 + (nI o ^^^ 1) = nI (4 * f i + (o + 1)) := by rw [eo]; exact ps_ix4 _ _
    have ho2 : o ≤ 2 := by omega
    refine br_f (nI_ge (by omega) (by omega)) ⟨pk_in (4 * i + o) 20 (by omega) (ps_ix4 i o), nm_r (e' := nI (f i)) (ps_rd (ps_ix4 i o) (by omega) (h2 i (by omega))) ⟨pk_in (4 * f i + (o + 1)) 20 (by omega) ex, nm_r (e' := upd a' (4 * f i + (o + 1)) (nI i)) (ps_wr ex (by omega) rfl) (nm_r (nI_1 i) (ih (i + 1) _ (by omega) ?_ ?_ ?_))⟩⟩
    · intro p hp
      rw [pk_un (by omega)]
      exact h2 p hp
    · intro p hp
      by_cases e : p = i
      · subst e
        exact pk_us
      · have : f p ≠ f i := fun q => e (hi p (by omega) i (by omega) q)
        rw [pk_un (by omega)]
        exact h3 p (by omega)
    · intro j q1 q2
      rw [pk_un (by omega)]
      exact h4 j q1 q2
theorem xx_sg36 {post : SX → Prop} {n o : Nat} {F : Nat → Nat} {a0 : Nat → Int32} (hn : n ≤ 5) (ho : o = 0 ∨ o = 2) (K : ∀ a', (∀ x, x < n → a' (4 * x + o) = nI (F x)) → (∀ j, j % 4 ≠ o → a' j = a0 j) → ∃ m, wX_setGenerator_116 post (nI n) (nI o) (nI L) (nI c) tc m 0 w ra le a' tk nn mp fs ss) : ∀ p rest f a', p < n → rest < 2 ^ 31 → ps_xf p rest f = F → (∀ x, x < n → a' (4 * x + o) = nI (f x)) → (∀ j, j % 4 ≠ o → a' j = a0 j) → wX_setGenerator_36 post (nI n) (nI o) (nI L) (nI c) tc (p + 1) (nI rest) (nI p) w ra le a' tk nn mp fs ss := by
  have ho2 : o ≤ 2 := by omega
  intro p
  induction p with
  | zero =>
    intro rest f a' hp hr hF h1 h2
    have hF : f = F := hF
    subst hF
    exact br_t (by decide) (K a' h1 h2)
  | succ p ih =>
    intro rest f a' hp hr hF h1 h2
    have e1 : nI (p + 1) + 1 = nI (p + 2) := nI_1 (p + 1)
    have ne : ¬ (nI (p + 1) + 1) = 0 := by rw [e1]; exact nI_ne0 (by omega) (by omega)
    have hq : rest % (p + 2) < p + 2 := Nat.mod_lt _ (by omega)
    have er : nI rest - nI rest / (nI (p + 1) + 1) * (nI (p + 1) + 1) = nI (rest % (p + 2)) := by rw [e1]; exact pk_rem hr (by omega) (by omega)
    have ed : nI rest / (nI (p + 1) + 1) = nI (rest / (p + 2)) := by rw [e1]; exact pk_div hr (by omega) (by omega)
    have hd : rest / (p + 2) < 2 ^ 31 := Nat.lt_of_le_of_lt (Nat.div_le_self _ _) hr
    have w1 := pk_in (4 * (p + 1) + o) 20 (by omega) (ps_ix4 (p + 1) o)
    have w2 := pk_in (4 * (rest % (p + 2)) + o) 20 (by omega) (ps_ix4 (rest % (p + 2)) o)
    refine br_f (nI_nle (by omega) (by omega)) ⟨ne, nm_r er ⟨ne, nm_r ed ⟨w1, nm_r (e' := nI (f (p + 1))) (ps_rd (ps_ix4 (p + 1) o) (by omega) (h1 _ hp)) ⟨w2, ⟨w1, nm_r (e' := upd a' (4 * (p + 1) + o) (nI (f (rest % (p + 2))))) (ps_wr (ps_ix4 (p + 1) o) (by omega) (ps_rd (ps_ix4 _ o) (by omega) (h1 _ (by omega)))) ⟨w2, nm_r (e' := upd (upd a' (4 * (p + 1) + o) (nI (f (rest % (p + 2))))) (4 * (rest % (p + 2)) + o) (nI (f (p + 1)))) (ps_wr (ps_ix4 _ o) (by omega) rfl) (nm_r (pk_m1 p) (ih (rest / (p + 2)) (ps_sw f (p + 1) (rest % (p + 2))) _ (by omega) hd hF ?_ ?_))⟩⟩⟩⟩⟩⟩
    · intro x hx
      show _ = nI (if x = rest % (p + 2) then f (p + 1) else if x = p + 1 then f (rest % (p + 2)) else f x)
      by_cases e : x = rest % (p + 2)
      · rw [if_pos e, e, pk_us]
      · rw [if_neg e, pk_un (by omega)]
        by_cases e' : x = p + 1
        · rw [if_pos e', e', pk_us]
        · rw [if_neg e', pk_un (by omega)]
          exact h1 x hx
    · intro j hj
      rw [pk_un (by omega), pk_un (by omega)]
      exact h2 j hj
theorem xx_sg3 {post : SX → Prop} {n o code : Nat} {a0 : Nat → Int32} (h0 : 0 < n) (hn : n ≤ 5) (ho : o = 0 ∨ o = 2) (K : ∀ a', (∀ x, x < n → a' (4 * x + o) = nI x) → (∀ j, j % 4 ≠ o → a' j = a0 j) → ∃ m, wX_setGenerator_36 post (nI n) (nI o) (nI L) (nI c) tc m (nI code) (nI (n - 1)) w ra le a' tk nn mp fs ss) : ∀ d i a', i + d = n → (∀ x, x < i → a' (4 * x + o) = nI x) → (∀ j, j % 4 ≠ o → a' j = a0 j) → wX_setGenerator_3 post (nI n) (nI o) (nI code) (nI L) (nI c) tc (d + 1) (nI i) w ra le a' tk nn mp fs ss := by
  intro d
  induction d with
  | zero =>
    intro i a' h1 h2 h3
    obtain rfl : i = n := by omega
    exact br_t (nI_le (by omega) (by omega)) (nm_r (ps_m1 h0) (K a' h2 h3))
  | succ d ih =>
    intro i a' h1 h2 h3
    have ho2 : o ≤ 2 := by omega
    refine br_f (nI_ge (by omega) (by omega)) ⟨pk_in (4 * i + o) 20 (by omega) (ps_ix4 i o), nm_r (e' := upd a' (4 * i + o) (nI i)) (ps_wr (ps_ix4 i o) (by omega) rfl) (nm_r (nI_1 i) (ih (i + 1) _ (by omega) ?_ ?_))⟩
    · intro x hx
      by_cases e : x = i
      · subst e
        exact pk_us
      · rw [pk_un (by omega)]
        exact h2 x (by omega)
    · intro j hj
      rw [pk_un (by omega)]
      exact h3 j hj
theorem xx_setG {post : SX → Prop} {n o code : Nat} (h0 : 0 < n) (hn : n ≤ 5) (ho : o = 0 ∨ o = 2) (hc : code < ps_fa n) (K : ∀ a', ps_Cl a' n o (ps_xl n code) → (∀ j, j % 4 ≠ o → j % 4 ≠ o + 1 → a' j = im j) → post (nI L, nI c, tc, w, ra, le, a', tk, nn, mp, fs, ss)) : wpX_setGenerator post (nI L, nI c, tc, w, ra, le, im, tk, nn, mp, fs, ss) (nI n) (nI o) (nI code) := by
  have hP := ev_xl h0 hn hc
  have hfa := (ev_fa hn).2
  have ex : ∀ x, x < n → ps_fn (ps_xl n code) x = ps_xf (n - 1) code (fun p => p) x := fun x hx => ps_gR hx
  refine ⟨n + 1, xx_sg3 (a0 := im) h0 hn ho (fun a1 g1 g2 => ⟨n - 1 + 1, xx_sg36 (a0 := im) (F := ps_xf (n - 1) code (fun p => p)) hn ho (fun a2 k1 k2 => ⟨n + 1, xx_sg116 (a0 := im) (f := ps_fn (ps_xl n code)) hn ho (fun p hp => (ps_Pm_iff hP p hp).1) (fun p hp q hq e => (ps_Pm_iff hP p hp).2.1.symm.trans ((congrArg _ e).trans (ps_Pm_iff hP q hq).2.1)) (fun a3 m1 m2 m3 => K a3 (fun p hp => ⟨m1 p hp, ?_⟩) m3) n 0 a2 (by omega) (fun p hp => by rw [ex p hp]; exact k1 p hp) (fun p hp => by omega) (fun j q1 _ => k2 j q1)⟩) (n - 1) code (fun p => p) a1 (by omega) (by omega) rfl g1 g2⟩) n 0 im (by omega) (fun x hx => by omega) (fun _ _ => rfl)⟩
  have h := ps_Pm_iff hP p hp
  have m := m2 _ h.2.2.1
  rw [h.2.2.2] at m
  exact m
theorem xx_num19 {post : Int32 → Prop} {J : Int32 → Int32 → Prop} {n p : Nat} {g : Nat → Nat → Nat} (hn : n ≤ 5) (hp : p < n) (hI : ps_XI im n g) (hg : ps_Gd n g) : ∀ d l met, l + d = 4 → met ≤ n → (ps_tL g p d l met = none → post 0) → (∀ m, ps_tL g p d l met = some m → m ≤ n → J (nI m) (nI (p + 1))) → wX_isNumberedAsMet_19 post J (nI n) (nI p) (nI L) (nI c) tc w ra le im tk nn mp fs ss (d + 1) (nI met) (nI l) := by
  intro d
  induction d with
  | zero =>
    intro l met hl hm q0 q1
    obtain rfl : l = 4 := by omega
    exact br_t (nI_le (a := 4) (b := 4) (by decide) (by decide)) (nm_r (nI_1 p) (q1 met rfl hm))
  | succ d ih =>
    intro l met hl hm q0 q1
    have hq := hg l (by omega) p hp
    rw [ps_tL, ps_fc_eq] at q0 q1
    refine br_f (nI_ge (b := 4) (by omega) (by decide)) ⟨pk_in (4 * p + l) 20 (by omega) (ps_ix4 p l), nm_r (e' := nI (g l p)) (ps_rd (ps_ix4 p l) (by omega) (hI l (by omega) p hp)) ?_⟩
    by_cases z : met < g l p
    · rw [if_pos z] at q0
      exact br_f (nI_ge z (by omega)) (q0 rfl)
    · rw [if_neg z] at q0 q1
      refine br_t (nI_le (by omega) (by omega)) ?_
      by_cases z2 : g l p = met
      · rw [if_pos z2] at q0 q1
        exact br_t (by rw [z2]) (nm_r (nI_1 met) (nm_r (nI_1 l) (ih (l + 1) (met + 1) (by omega) (by omega) q0 q1)))
      · rw [if_neg z2] at q0 q1
        exact br_f (fun q => z2 ((nI_eq (by omega) (by omega)).mp q)) (nm_r (nI_1 l) (ih (l + 1) met (by omega) hm q0 q1))
theorem xx_num4 {post : Int32 → Prop} {n : Nat} {g : Nat → Nat → Nat} (hn : n ≤ 5) (hI : ps_XI im n g) (hg : ps_Gd n g) : ∀ d p met, p + d = n → met ≤ n → post (ps_b (ps_tP g d p met)) → wX_isNumberedAsMet_4 post (nI n) (nI L) (nI c) tc w ra le im tk nn mp fs ss (d + 1) (nI met) (nI p) := by
  intro d
  induction d with
  | zero =>
    intro p met hp hm h
    obtain rfl : p = n := by omega
    exact br_t (nI_le (by omega) (by omega)) h
  | succ d ih =>
    intro p met hp hm h
    refine br_f (nI_ge (by omega) (by omega)) ?_
    by_cases z : met ≤ p
    · rw [ps_tP, if_pos z] at h
      exact br_f (nI_nlt z (by omega)) h
    · rw [ps_tP, if_neg z] at h
      refine br_t (nI_lt (by omega) (by omega)) ⟨5, xx_num19 hn (by omega) hI hg 4 0 met rfl hm (fun e => ?_) (fun m e hm' => ?_)⟩
      · rw [e] at h
        exact h
      · rw [e] at h
        exact ih (p + 1) m (by omega) hm' h
theorem xx_num {post : Int32 → Prop} {n : Nat} {g : Nat → Nat → Nat} (h0 : 0 < n) (hn : n ≤ 5) (hI : ps_XI im n g) (hg : ps_Gd n g) (h : post (ps_b (ps_isT n g))) : wpX_isNumberedAsMet post (nI L, nI c, tc, w, ra, le, im, tk, nn, mp, fs, ss) (nI n) :=
  ⟨n + 1, xx_num4 hn hI hg n 0 1 (by omega) (by omega) h⟩
theorem xx_wkR7 {post : Int32 → Prop} {n k p : Nat} {g : Nat → Nat → Nat} {ln : Nat → Nat} {rl : Nat → Nat → Nat} (hn : n ≤ 5) (hI : ps_XI im n g) (hg : ps_Gd n g) (hr : ps_Ru c ln rl ra le) (hc : c ≤ 4) (hk : k < c) (hp : p < n) (K : post (nI (ps_wk g (rl k) (ln k) p))) : ∀ d i, i + d = ln k → wX_walk__relatorLetters_7 post (nI (8 * k)) (nI (ln k)) (nI L) (nI c) tc w ra le im tk nn mp fs ss (d + 1) (nI (ps_wk g (rl k) i p)) (nI i) := by
  have gk := hr k hk
  have g1 := gk.1
  intro d
  induction d with
  | zero =>
    intro i hi
    obtain rfl : i = ln k := by omega
    exact br_t (nI_le (by omega) (by omega)) K
  | succ d ih =>
    intro i hi
    have hl := gk.2.2 i (by omega)
    have hat := ps_wk_lt (r := rl k) hg i p (fun j hj => (gk.2.2 j (by omega)).1) hp
    have er : ra (nI (8 * k) + nI i).toNatClampNeg = nI (rl k i) := ps_rd (nI_add _ _) (by omega) hl.2
    have ex : nI (ps_wk g (rl k) i p) * 4 + ra (nI (8 * k) + nI i).toNatClampNeg = nI (4 * ps_wk g (rl k) i p + rl k i) := by rw [er]; exact ps_ix4 _ _
    have h4 := hl.1
    exact br_f (nI_ge (by omega) (by omega)) ⟨pk_in (8 * k + i) 32 (by omega) (nI_add _ _), ⟨pk_in (4 * ps_wk g (rl k) i p + rl k i) 20 (by omega) ex, nm_r (e' := nI (ps_wk g (rl k) (i + 1) p)) (ps_rd ex (by omega) (hI _ hl.1 _ hat)) (nm_r (nI_1 i) (ih (i + 1) (by omega)))⟩⟩
theorem xx_walkR {post : Int32 → Prop} {n k p : Nat} {g : Nat → Nat → Nat} {ln : Nat → Nat} {rl : Nat → Nat → Nat} (hn : n ≤ 5) (hI : ps_XI im n g) (hg : ps_Gd n g) (hr : ps_Ru c ln rl ra le) (hc : c ≤ 4) (hk : k < c) (hp : p < n) (K : post (nI (ps_wk g (rl k) (ln k) p))) : wpX_walk__relatorLetters post (nI L, nI c, tc, w, ra, le, im, tk, nn, mp, fs, ss) (nI k * 8) (le (nI k).toNatClampNeg) (nI p) := by
  rw [ps_m8, ps_rd rfl (by omega) (hr k hk).2.1]
  exact ⟨ln k + 1, xx_wkR7 hn hI hg hr hc hk hp K (ln k) 0 (by omega)⟩
theorem xx_rh12 {post J : Int32 → Prop} {n k : Nat} {g : Nat → Nat → Nat} {ln : Nat → Nat} {rl : Nat → Nat → Nat} (hn : n ≤ 5) (hI : ps_XI im n g) (hg : ps_Gd n g) (hr : ps_Ru c ln rl ra le) (hc : c ≤ 4) (hk : k < c) (k0 : (∃ q, q < n ∧ ps_wk g (rl k) (ln k) q ≠ q) → post 0) (k1 : (∀ q, q < n → ps_wk g (rl k) (ln k) q = q) → J (nI (k + 1))) : ∀ d p, p + d = n → (∀ q, q < p → ps_wk g (rl k) (ln k) q = q) → wX_relatorsHold_12 post J (nI n) (nI k) (nI L) (nI c) tc w ra le im tk nn mp fs ss (d + 1) (nI p) := by
  intro d
  induction d with
  | zero =>
    intro p hp h
    obtain rfl : p = n := by omega
    exact br_t (nI_le (by omega) (by omega)) (nm_r (nI_1 k) (k1 h))
  | succ d ih =>
    intro p hp h
    have hat := ps_wk_lt (r := rl k) hg (ln k) p (fun j hj => ((hr k hk).2.2 j hj).1) (by omega)
    refine br_f (nI_ge (by omega) (by omega)) ⟨vp_in_nI (by omega) (by decide), xx_walkR hn hI hg hr hc hk (by omega) ?_⟩
    by_cases z : ps_wk g (rl k) (ln k) p = p
    · exact br_t (by rw [z]) (nm_r (nI_1 p) (ih (p + 1) (by omega) (lt_s h z)))
    · exact br_f (fun q => z ((nI_eq (by omega) (by omega)).mp q)) (k0 ⟨p, by omega, z⟩)
theorem xx_rh2 {post : Int32 → Prop} {n : Nat} {g : Nat → Nat → Nat} {ln : Nat → Nat} {rl : Nat → Nat → Nat} (hn : n ≤ 5) (hI : ps_XI im n g) (hg : ps_Gd n g) (hr : ps_Ru c ln rl ra le) (hc : c ≤ 4) (K : post (ps_b (ps_hb n c ln rl g))) : ∀ d k, k + d = c → (∀ k', k' < k → ∀ q, q < n → ps_wk g (rl k') (ln k') q = q) → wX_relatorsHold_2 post (nI n) (nI L) (nI c) tc w ra le im tk nn mp fs ss (d + 1) (nI k) := by
  intro d
  induction d with
  | zero =>
    intro k hk h
    obtain rfl : k = c := by omega
    have e : ps_hb n k ln rl g = true := decide_eq_true h
    rw [e] at K
    exact br_t (nI_le (by omega) (by omega)) K
  | succ d ih =>
    intro k hk h
    refine br_f (nI_ge (by omega) (by omega)) ⟨n + 1, xx_rh12 hn hI hg hr hc (by omega) (fun hx => ?_) (fun hx => ih (k + 1) (by omega) (lt_s h hx)) n 0 (by omega) (fun q hq => by omega)⟩
    obtain ⟨q, hq, hne⟩ := hx
    have e : ps_hb n c ln rl g = false := decide_eq_false (fun hh => hne (hh k (by omega) q hq))
    rw [e] at K
    exact K
theorem xx_rh {post : Int32 → Prop} {n : Nat} {g : Nat → Nat → Nat} {ln : Nat → Nat} {rl : Nat → Nat → Nat} (hn : n ≤ 5) (hI : ps_XI im n g) (hg : ps_Gd n g) (hr : ps_Ru c ln rl ra le) (hc : c ≤ 4) (K : post (ps_b (ps_hb n c ln rl g))) : wpX_relatorsHold post (nI L, nI c, tc, w, ra, le, im, tk, nn, mp, fs, ss) (nI n) :=
  ⟨c + 1, xx_rh2 hn hI hg hr hc K c 0 (by omega) (fun k hk => by omega)⟩
theorem xx_koi5 {post : Int64 → Prop} {n : Nat} {g : Nat → Nat → Nat} (hn : n ≤ 5) (hI : ps_XI im n g) (hg : ps_Gd n g) (K : post (lN (ps_ky n g))) : ∀ d i, i + d = 4 * n → wX_keyOfImages_5 post (nI n) (nI L) (nI c) tc w ra le im tk nn mp fs ss (d + 1) (lN (ps_kf 8 (ps_dg g) i)) (nI i) := by
  intro d
  induction d with
  | zero =>
    intro i hi
    obtain rfl : i = 4 * n := by omega
    exact br_t (by rw [ps_m4]; exact nI_le (by omega) (by omega)) K
  | succ d ih =>
    intro i hi
    have hd := ps_dg_lt hg i (by omega)
    have ei : im i = nI (ps_dg g i) := by
      have h := hI (i % 4) (by omega) (i / 4) (by omega)
      rw [show 4 * (i / 4) + i % 4 = i by omega] at h
      exact h
    refine br_f (by rw [ps_m4]; exact nI_ge (by omega) (by omega)) ⟨vp_in_nI (by omega) (by decide), nm_r (e' := lN (ps_kf 8 (ps_dg g) (i + 1))) ?_ (nm_r (nI_1 i) (ih (i + 1) (by omega)))⟩
    rw [ps_rd rfl (by omega) ei, ps_shl3 _ (by omega), ps_kf]
theorem xx_koi {post : Int64 → Prop} {n : Nat} {g : Nat → Nat → Nat} (hn : n ≤ 5) (hI : ps_XI im n g) (hg : ps_Gd n g) (K : post (lN (ps_ky n g))) : wpX_keyOfImages post (nI L, nI c, tc, w, ra, le, im, tk, nn, mp, fs, ss) (nI n) := ⟨4 * n + 1, xx_koi5 hn hI hg K (4 * n) 0 (by omega)⟩
end
end
section
/-! the component's kept tables -/
theorem ps_eX_mem {n t : Nat} (ht : t < ps_fa n * ps_fa n) : ps_eX n t ∈ ps_XL n := List.mem_map.mpr ⟨t, List.mem_range.mpr ht, rfl⟩
theorem ps_Kp_mem {e : Nat → Nat} {G : Nat → Bool} {f : Nat → Nat} {t : Nat} {L : List Nat} (h : ps_Kp e G f t L) {x : Nat} (hx : x ∈ L) : ∃ s, s < t ∧ x = f (e s) := by
  have h1 := h.2.mem_iff.mp hx
  obtain ⟨y, hy, rfl⟩ := List.mem_map.mp h1
  obtain ⟨s, hs, rfl⟩ := List.mem_map.mp (List.mem_filter.mp hy).1
  exact ⟨s, List.mem_range.mp hs, rfl⟩
theorem ps_snoc {α : Type} {m : Nat} {A : List α} (h : A.length = m + 1) : ∃ A' x, A = A' ++ [x] ∧ A'.length = m := by
  rcases List.eq_nil_or_concat A with rfl | ⟨A', x, rfl⟩
  · simp at h
  · refine ⟨A', x, by simp, ?_⟩
    simpa using h
section
variable {L c : Nat} {tc : Int32} {w ra le im nn mp fs ss : Nat → Int32} {tk : Nat → Int64}
theorem xx_kt53 {post : SX → Prop} {K T m : Nat} {A B : List Nat} {tk' : Nat → Int64} (hT : A.length + B.length = T) (hT4 : T < 461) (hm : A.length = m) (hS : ps_Sp tk' 0 A B) (hs : (A ++ B).Pairwise (· ≤ ·)) (hA : ∀ a, a ∈ A → a ≤ K) (hB : ∀ b, b ∈ B → K ≤ b) (KK : ∀ tk'' L', L'.Pairwise (· ≤ ·) → L'.Perm (K :: (A ++ B)) → ps_Ar tk'' 0 L' → post (nI L, nI c, nI (T + 1), w, ra, le, im, tk'', nn, mp, fs, ss)) : wX_keepTable_53 post (lN K) (nI m) (nI L) (nI c) (nI T) w ra le im tk' nn mp fs ss := by
  have hE := ps_Sp_end (K := K) hS
  rw [Nat.zero_add, hm] at hE
  exact ⟨vp_in_nI (by omega) (by decide), nm_r (ps_wrL rfl (by omega) rfl) (nm_r (nI_1 T) (KK _ _ (ps_srt hs hA hB) List.perm_middle hE))⟩
theorem xx_kt16 {post : SX → Prop} {K T : Nat} (hK : K < 2 ^ 63) (hT4 : T < 461) : ∀ m (A B : List Nat) tk', A.length = m → A.length + B.length = T → (∀ a, a ∈ A → a < 2 ^ 63) → ps_Sp tk' 0 A B → (A ++ B).Pairwise (· ≤ ·) → (∀ b, b ∈ B → K ≤ b) → (∀ tk'' L', L'.Pairwise (· ≤ ·) → L'.Perm (K :: (A ++ B)) → ps_Ar tk'' 0 L' → post (nI L, nI c, nI (T + 1), w, ra, le, im, tk'', nn, mp, fs, ss)) → wX_keepTable_16 post (lN K) (nI L) (nI c) (nI T) (m + 1) (nI m) w ra le im tk' nn mp fs ss := by
  intro m
  induction m with
  | zero =>
    intro A B tk' hm hT hb hS hs hB KK
    have hA : A = [] := List.eq_nil_of_length_eq_zero hm
    exact br_t (by decide) (xx_kt53 hT hT4 hm hS hs (fun a ha => by rw [hA] at ha; exact absurd ha List.not_mem_nil) hB KK)
  | succ m ih =>
    intro A B tk' hm hT hb hS hs hB KK
    obtain ⟨A', x, rfl, hm'⟩ := ps_snoc hm
    have hx : x < 2 ^ 63 := hb x (List.mem_append.mpr (Or.inr (List.mem_singleton.mpr rfl)))
    have e1 : nI (m + 1) - 1 = nI m := nI_pred m
    have ec : tk' (nI (m + 1) - 1).toNatClampNeg = lN x := by
      refine ps_rdL e1 (by omega) ?_
      have h := hS.1 m (by omega)
      rw [Nat.zero_add] at h
      rw [h, ← hm']
      have g := ps_gB (A := A') (B := [x]) (i := 0) (d := 0)
      rw [Nat.add_zero] at g
      rw [g]
      rfl
    have v1 : vp_in (nI (m + 1) - 1) 461 := pk_in m 461 (by omega) e1
    refine br_f (nI_nle (by omega) (by omega)) ⟨v1, ?_⟩
    by_cases z : x ≤ K
    · exact br_t (by rw [ec]; exact (pk_lLE hx hK).mpr z) (xx_kt53 hT hT4 hm hS hs (ps_srt_last hs z) hB KK)
    · refine br_f (by rw [ec, pk_lLE hx hK]; exact z) ⟨v1, ⟨vp_in_nI (by omega) (by decide), nm_r (e' := vp_updL tk' (0 + A'.length + 1) (tk' (0 + A'.length))) ?_ (nm_r (pk_m1 m) (ih A' (x :: B) _ hm' (by simp at hT ⊢; omega) (fun a ha => hb a (List.mem_append.mpr (Or.inl ha))) (ps_Sp_mv hS) (by simpa using hs) ?_ (fun tk'' L' q1 q2 q3 => KK tk'' L' q1 (by simpa using q2) q3)))⟩⟩
      · rw [Nat.zero_add, hm', e1, nI_clamp (by omega), nI_clamp (by omega)]
      · intro b hb'
        rcases List.mem_cons.mp hb' with rfl | hb'
        · omega
        · exact hB b hb'
theorem xx_keep {post : SX → Prop} {K : Nat} {A : List Nat} (hK : K < 2 ^ 63) (hT4 : A.length < 461) (hb : ∀ a, a ∈ A → a < 2 ^ 63) (hA : ps_Ar tk 0 A) (hs : A.Pairwise (· ≤ ·)) (KK : ∀ tk'' L', L'.Pairwise (· ≤ ·) → L'.Perm (K :: A) → ps_Ar tk'' 0 L' → post (nI L, nI c, nI (A.length + 1), w, ra, le, im, tk'', nn, mp, fs, ss)) : wpX_keepTable post (nI L, nI c, nI A.length, w, ra, le, im, tk, nn, mp, fs, ss) (lN K) :=
  br_t (nI_lt (b := 461) hT4 (by decide)) ⟨A.length + 1, xx_kt16 hK hT4 A.length A [] tk rfl rfl hb ⟨hA, fun i hi => absurd hi (Nat.not_lt_zero i)⟩ (by simpa using hs) (fun b hb => absurd hb List.not_mem_nil) (fun tk'' L' q1 q2 q3 => KK tk'' L' q1 (by simpa using q2) q3)⟩
theorem xx_ft28 {post : SX → Prop} {J : Int32 → Int32 → Int32 → Int32 → (Nat → Int32) → (Nat → Int32) → (Nat → Int32) → (Nat → Int32) → (Nat → Int64) → (Nat → Int32) → (Nat → Int32) → (Nat → Int32) → (Nat → Int32) → Prop} {n i : Nat} {ln : Nat → Nat} {rl : Nat → Nat → Nat} (h0 : 0 < n) (hn : n ≤ 5) (hr : ps_Ru c ln rl ra le) (hc : c ≤ 4) (hi : i < ps_fa n) (KJ : ∀ a' tk' A, ps_Kp (ps_eX n) (ps_G n c ln rl) (fun K => K) ((i + 1) * ps_fa n) A → ps_Ar tk' 0 A → J (nI (i + 1)) (nI L) (nI c) (nI A.length) w ra le a' tk' nn mp fs ss) : ∀ d j a' tk' A, j + d = ps_fa n → ps_Cl a' n 0 (ps_xl n i) → ps_Kp (ps_eX n) (ps_G n c ln rl) (fun K => K) (i * ps_fa n + j) A → ps_Ar tk' 0 A → wX_findTables_28 post J (nI n) (nI (ps_fa n)) (nI i) (d + 1) (nI j) (nI L) (nI c) (nI A.length) w ra le a' tk' nn mp fs ss := by
  have hfa := ev_fa hn
  intro d
  induction d with
  | zero =>
    intro j a' tk' A hj hC hK hA
    obtain rfl : j = ps_fa n := by omega
    rw [← Nat.succ_mul] at hK
    exact br_t (nI_le (by omega) (by omega)) (nm_r (nI_1 i) (KJ a' tk' A hK hA))
  | succ d ih =>
    intro j a' tk' A hj hC hK hA
    have hjN : j < ps_fa n := by omega
    have ht : i * ps_fa n + j < ps_fa n * ps_fa n := by
      have h1 : (i + 1) * ps_fa n ≤ ps_fa n * ps_fa n := Nat.mul_le_mul_right _ hi
      rw [Nat.succ_mul] at h1
      omega
    have eK := ps_eX_eq (n := n) (i := i) hjN
    have hF := ev_XLFa h0 hn (ps_eX_mem ht)
    have hG0 := ps_ac_Gd (ev_xl h0 hn hi) (ev_xl h0 hn hjN)
    refine br_f (nI_ge hjN (by omega)) (xx_setG (o := 2) h0 hn (Or.inr rfl) hjN (fun a2 hC2 hO => ?_))
    have hC1 : ps_Cl a2 n 0 (ps_xl n i) := fun p hp => by
      rw [hO _ (by omega) (by omega), hO _ (by omega) (by omega)]
      exact hC p hp
    have hI0 := ps_Cl_XI hC1 hC2
    have hI : ps_XI a2 n (ps_gk n (ps_eX n (i * ps_fa n + j))) := ps_XI_c hI0 (fun l hl p hp => by rw [eK]; exact ps_gk_ky hn hG0 l p hl hp)
    refine xx_num h0 hn hI hF.1 ?_
    cases hT : ps_isT n (ps_gk n (ps_eX n (i * ps_fa n + j))) with
    | false =>
      have hGf : ¬ ps_G n c ln rl (ps_eX n (i * ps_fa n + j)) = true := by
        rw [ps_G, hT, Bool.false_and]
        decide
      exact br_t rfl (nm_r (nI_1 j) (ih (j + 1) a2 tk' A (by omega) hC1 (ps_Kp_n hGf hK) hA))
    | true =>
      refine br_f (by decide) (xx_rh hn hI hF.1 hr hc ?_)
      cases hH : ps_hb n c ln rl (ps_gk n (ps_eX n (i * ps_fa n + j))) with
      | false =>
        have hGf : ¬ ps_G n c ln rl (ps_eX n (i * ps_fa n + j)) = true := by
          rw [ps_G, hT, hH]
          decide
        exact br_t rfl (nm_r (nI_1 j) (ih (j + 1) a2 tk' A (by omega) hC1 (ps_Kp_n hGf hK) hA))
      | true =>
        have hGt : ps_G n c ln rl (ps_eX n (i * ps_fa n + j)) = true := by rw [ps_G, hT, hH]; rfl
        refine br_f (by decide) (xx_koi hn hI0 hG0 ?_)
        rw [← eK]
        refine xx_keep (Nat.lt_trans (ps_K8 hn hF.2.2) (by decide)) (ps_Kp_room (M := ps_fa n * ps_fa n) (fun K h => ps_G_T K h) ht (ev_cnt h0 hn) hK hGt) (fun a ha => ?_) hA hK.1 (fun tk'' A' q1 q2 q3 => nm_r (nI_1 j) ?_)
        · obtain ⟨s, hs, rfl⟩ := ps_Kp_mem hK ha
          exact Nat.lt_trans (ps_K8 hn (ev_XLFa h0 hn (ps_eX_mem (by omega))).2.2) (by decide)
        · have hl : A.length + 1 = A'.length := by rw [q2.length_eq]; rfl
          rw [hl]
          exact ih (j + 1) a2 tk'' A' (by omega) hC1 (ps_Kp_y hGt hK q1 q2) q3
theorem xx_ft13 {post : SX → Prop} {n : Nat} {ln : Nat → Nat} {rl : Nat → Nat → Nat} (h0 : 0 < n) (hn : n ≤ 5) (hr : ps_Ru c ln rl ra le) (hc : c ≤ 4) (K : ∀ a' tk', ps_Ar tk' 0 (ps_TL n (ps_G n c ln rl)) → post (nI L, nI c, nI (ps_TL n (ps_G n c ln rl)).length, w, ra, le, a', tk', nn, mp, fs, ss)) : ∀ d i a' tk' A, i + d = ps_fa n → ps_Kp (ps_eX n) (ps_G n c ln rl) (fun K => K) (i * ps_fa n) A → ps_Ar tk' 0 A → wX_findTables_13 post (nI n) (nI (ps_fa n)) (d + 1) (nI i) (nI L) (nI c) (nI A.length) w ra le a' tk' nn mp fs ss := by
  have hfa := ev_fa hn
  intro d
  induction d with
  | zero =>
    intro i a' tk' A hi hK hA
    obtain rfl : i = ps_fa n := by omega
    have e := ps_KpX hK
    subst e
    exact br_t (nI_le (by omega) (by omega)) (K a' tk' hA)
  | succ d ih =>
    intro i a' tk' A hi hK hA
    exact br_f (nI_ge (by omega) (by omega)) (xx_setG (o := 0) h0 hn (Or.inl rfl) (by omega) (fun a2 hC _ => ⟨ps_fa n + 1, xx_ft28 h0 hn hr hc (by omega) (fun a' tk' A h1 h2 => ih (i + 1) a' tk' A (by omega) h1 h2) (ps_fa n) 0 a2 tk' A (by omega) hC hK hA⟩))
theorem xx_find {post : SX → Prop} {n : Nat} {ln : Nat → Nat} {rl : Nat → Nat → Nat} (h0 : 0 < n) (hn : n ≤ 5) (hr : ps_Ru c ln rl ra le) (hc : c ≤ 4) (K : ∀ a' tk', ps_Ar tk' 0 (ps_TL n (ps_G n c ln rl)) → post (nI L, nI c, nI (ps_TL n (ps_G n c ln rl)).length, w, ra, le, a', tk', nn, mp, fs, ss)) : wpX_findTables post (nI L, nI c, tc, w, ra, le, im, tk, nn, mp, fs, ss) (nI n) := by
  unfold wpX_findTables
  dsimp only
  exact xx_perm h0 hn ⟨ps_fa n + 1, xx_ft13 h0 hn hr hc K (ps_fa n) 0 im tk [] (by omega) (by rw [Nat.zero_mul]; exact ps_Kp_0 _ _ _) (fun i hi => absurd hi (Nat.not_lt_zero i))⟩
end
end
section
/-! the component: a table at hand; tables, image, actions -/
theorem ps_and7 {M : Nat} (h : M < 2 ^ 62) : (lN M &&& 7).toInt32 = nI (M % 8) := by
  have e : lN M &&& lN (2 ^ 3 - 1) = lN (M % 2 ^ 3) := wb_mask (k := 3) (Nat.lt_trans h (by decide)) (by decide)
  have e2 : lN M &&& 7 = lN (M % 8) := e
  rw [e2, lN_i]
theorem ps_shr3 {M : Nat} (h : M < 2 ^ 62) : lN M >>> ((3 : Int32).toInt64 &&& 63) = lN (M / 8) := pf_shr (d := 3) (by decide) h
theorem ps_ct_t {e : Nat → Nat} {H : Nat → Bool} {t : Nat} (h : H (e t) = true) : ((List.range (t + 1)).map e).countP H = ((List.range t).map e).countP H + 1 := by
  rw [ps_pre_s, List.countP_append, List.countP_cons, if_pos h]
  rfl
theorem ps_ct_f {e : Nat → Nat} {H : Nat → Bool} {t : Nat} (h : H (e t) = false) : ((List.range (t + 1)).map e).countP H = ((List.range t).map e).countP H := by
  rw [ps_pre_s, List.countP_append, List.countP_cons, h]
  rfl
section
variable {L c : Nat} {tc : Int32} {w ra le im nn mp fs ss : Nat → Int32} {tk : Nat → Int64}
theorem xx_load14 {post : SX → Prop} {n K : Nat} (hn : n ≤ 5) (hK : K < 2 ^ 61) (KK : ∀ a', ps_XI a' n (ps_gk n K) → post (nI L, nI c, tc, w, ra, le, a', tk, nn, mp, fs, ss)) : ∀ r x5 a', r ≤ 4 * n → x5 = nI r - 1 → (∀ i, r ≤ i → i < 4 * n → a' i = nI (K / 8 ^ (4 * n - 1 - i) % 8)) → wX_loadTable_14 post (nI L) (nI c) tc (r + 1) (lN (K / 8 ^ (4 * n - r))) x5 w ra le a' tk nn mp fs ss := by
  intro r
  induction r with
  | zero =>
    intro x5 a' h1 h2 h3
    exact br_t (by rw [h2]; decide) (KK a' (fun l hl p hp => h3 (4 * p + l) (by omega) (by omega)))
  | succ r ih =>
    intro x5 a' h1 h2 h3
    have hM : K / 8 ^ (4 * n - (r + 1)) < 2 ^ 62 := Nat.lt_of_le_of_lt (Nat.div_le_self _ _) (Nat.lt_trans hK (by decide))
    have ex : x5 = nI r := by rw [h2]; exact nI_pred r
    subst ex
    have ed : K / 8 ^ (4 * n - (r + 1)) / 8 = K / 8 ^ (4 * n - r) := by
      rw [Nat.div_div_eq_div_mul, ← Nat.pow_succ]
      congr 2
      omega
    refine br_f (nI_pos (by omega)) ⟨vp_in_nI (by omega) (by decide), nm_r (e' := upd a' r (nI (K / 8 ^ (4 * n - (r + 1)) % 8))) (ps_wr rfl (by omega) (ps_and7 hM)) (nm_r (e' := lN (K / 8 ^ (4 * n - r))) (by rw [ps_shr3 hM, ed]) (nm_e (ih _ _ (by omega) ?_ ?_)))⟩
    · rw [Int32.sub_eq_add_neg]
    · intro i hi1 hi2
      by_cases e : i = r
      · subst e
        rw [pk_us, show 4 * n - 1 - i = 4 * n - (i + 1) by omega]
      · rw [pk_un e]
        exact h3 i (by omega) hi2
theorem xx_load {post : SX → Prop} {n k K : Nat} (hn : n ≤ 5) (hk : k < 461) (htk : tk k = lN K) (hK : K < 2 ^ 61) (KK : ∀ a', ps_XI a' n (ps_gk n K) → post (nI L, nI c, tc, w, ra, le, a', tk, nn, mp, fs, ss)) : wpX_loadTable post (nI L, nI c, tc, w, ra, le, im, tk, nn, mp, fs, ss) (nI n) (nI k) := by
  refine ⟨vp_in_nI hk (by decide), nm_r (e' := lN K) (ps_rdL rfl (by omega) htk) (nm_r (e' := nI (4 * n) - 1) (by rw [ps_m4]) ⟨4 * n + 1, ?_⟩)⟩
  have h := xx_load14 (L := L) (c := c) (tc := tc) (w := w) (ra := ra) (le := le) (nn := nn) (mp := mp) (fs := fs) (ss := ss) (tk := tk) hn hK KK (4 * n) (nI (4 * n) - 1) im (Nat.le_refl _) rfl (fun i h1 h2 => by omega)
  rw [Nat.sub_self, Nat.pow_zero, Nat.div_one] at h
  exact h
end
def xx_OK (L c : Nat) (wn ln : Nat → Nat) (rl : Nat → Nat → Nat) (u : SX) : Prop := ∃ (tc : Int32) (w ra le im : Nat → Int32) (tk : Nat → Int64) (nn mp fs ss : Nat → Int32), u = (nI L, nI c, tc, w, ra, le, im, tk, nn, mp, fs, ss) ∧ L ≤ 8 ∧ c ≤ 4 ∧ ps_Wo wn w ∧ ps_Ru c ln rl ra le
section
variable {L c : Nat} {tc : Int32} {w ra le im nn mp fs ss : Nat → Int32} {tk : Nat → Int64}
variable {wn ln : Nat → Nat} {rl : Nat → Nat → Nat}
theorem xx_mk (hL : L ≤ 8) (hc : c ≤ 4) (hw : ps_Wo wn w) (hr : ps_Ru c ln rl ra le) : xx_OK L c wn ln rl (nI L, nI c, tc, w, ra, le, im, tk, nn, mp, fs, ss) := ⟨tc, w, ra, le, im, tk, nn, mp, fs, ss, rfl, hL, hc, hw, hr⟩
theorem xx_tables_b {post : Int32 → SX → Prop} {v : Int32} (h : v < 1 ∨ 5 < v) (k : post (-1) (nI L, nI c, tc, w, ra, le, im, tk, nn, mp, fs, ss)) : wpX_tables post (nI L, nI c, tc, w, ra, le, im, tk, nn, mp, fs, ss) v := by
  unfold wpX_tables
  dsimp only
  exact xx_isP_b h (br_t rfl k)
theorem xx_tables_o {post : Int32 → SX → Prop} {n : Nat} (h0 : 0 < n) (hn : n ≤ 5) (hL : L ≤ 8) (hc : c ≤ 4) (hw : ps_Wo wn w) (hr : ps_Ru c ln rl ra le) (K : ∀ u', xx_OK L c wn ln rl u' → post (nI (ps_TL n (ps_G n c ln rl)).length) u') : wpX_tables post (nI L, nI c, tc, w, ra, le, im, tk, nn, mp, fs, ss) (nI n) := by
  unfold wpX_tables
  dsimp only
  exact xx_isP_o h0 hn (br_f (by decide) (xx_find h0 hn hr hc (fun a' tk' _ => K _ (xx_mk hL hc hw hr))))
theorem xx_image_b1 {post : Int32 → SX → Prop} {v v2 v3 v4 : Int32} (h : v < 1 ∨ 5 < v) (k : post (-1) (nI L, nI c, tc, w, ra, le, im, tk, nn, mp, fs, ss)) : wpX_image post (nI L, nI c, tc, w, ra, le, im, tk, nn, mp, fs, ss) v v2 v3 v4 := by
  unfold wpX_image
  dsimp only
  exact xx_isP_b h (br_t rfl k)
theorem xx_image_b2 {post : Int32 → SX → Prop} {n : Nat} {v2 v3 v4 : Int32} (h0 : 0 < n) (hn : n ≤ 5) (h : v3 < 0 ∨ nI n ≤ v3) (k : post (-1) (nI L, nI c, tc, w, ra, le, im, tk, nn, mp, fs, ss)) : wpX_image post (nI L, nI c, tc, w, ra, le, im, tk, nn, mp, fs, ss) (nI n) v2 v3 v4 := by
  unfold wpX_image
  dsimp only
  refine xx_isP_o h0 hn (br_f (by decide) ?_)
  by_cases z : v3 < 0
  · exact br_t z k
  · rcases h with h | h
    · exact absurd h z
    · exact br_f z (br_t h k)
theorem xx_image_b3 {post : Int32 → SX → Prop} {n p : Nat} {v2 v4 : Int32} (h0 : 0 < n) (hn : n ≤ 5) (hp : p < n) (h : v4 < 0 ∨ nI 4 ≤ v4) (k : post (-1) (nI L, nI c, tc, w, ra, le, im, tk, nn, mp, fs, ss)) : wpX_image post (nI L, nI c, tc, w, ra, le, im, tk, nn, mp, fs, ss) (nI n) v2 (nI p) v4 := by
  unfold wpX_image
  dsimp only
  exact xx_isP_o h0 hn (br_f (by decide) (br_f (nI_pos (by omega)) (br_f (nI_ge hp (by omega)) (xx_isL_b h (br_t rfl k)))))
theorem xx_image_b4 {post : Int32 → SX → Prop} {n p l : Nat} {v2 : Int32} (h0 : 0 < n) (hn : n ≤ 5) (hp : p < n) (hl : l < 4) (hL : L ≤ 8) (hc : c ≤ 4) (hw : ps_Wo wn w) (hr : ps_Ru c ln rl ra le) (h : v2 < 0 ∨ nI (ps_TL n (ps_G n c ln rl)).length ≤ v2) (K : ∀ u', xx_OK L c wn ln rl u' → post (-4) u') : wpX_image post (nI L, nI c, tc, w, ra, le, im, tk, nn, mp, fs, ss) (nI n) v2 (nI p) (nI l) := by
  unfold wpX_image
  dsimp only
  exact xx_isP_o h0 hn (br_f (by decide) (br_f (nI_pos (by omega)) (br_f (nI_ge hp (by omega)) (xx_isL_o hl (br_f (by decide) (xx_find h0 hn hr hc (fun a' tk' _ => xx_isTN_b h (br_t rfl (K _ (xx_mk hL hc hw hr))))))))))
theorem xx_image_o {post : Int32 → SX → Prop} {n p l k : Nat} (h0 : 0 < n) (hn : n ≤ 5) (hp : p < n) (hl : l < 4) (hL : L ≤ 8) (hc : c ≤ 4) (hw : ps_Wo wn w) (hr : ps_Ru c ln rl ra le) (h : k < (ps_TL n (ps_G n c ln rl)).length) (K : ∀ u', xx_OK L c wn ln rl u' → post (nI (ps_gk n ((ps_TL n (ps_G n c ln rl)).getD k 0) l p)) u') : wpX_image post (nI L, nI c, tc, w, ra, le, im, tk, nn, mp, fs, ss) (nI n) (nI k) (nI p) (nI l) := by
  have hT := ps_TL_len (c := c) (ln := ln) (rl := rl) h0 hn
  have hF := (ps_TLFa h0 hn h).1
  unfold wpX_image
  dsimp only
  refine xx_isP_o h0 hn (br_f (by decide) (br_f (nI_pos (by omega)) (br_f (nI_ge hp (by omega)) (xx_isL_o hl (br_f (by decide) (xx_find h0 hn hr hc (fun a' tk' hA => xx_isTN_o h hT (br_f (by decide) (xx_load hn (by omega) ?_ (ps_K8 hn hF.2.2) (fun a2 hI => ⟨pk_in (4 * p + l) 20 (by omega) (ps_ix4 p l), ?_⟩))))))))))
  · have q := hA k h
    rw [Nat.zero_add] at q
    exact q
  · dsimp only
    rw [ps_rd (ps_ix4 p l) (by omega) (hI l hl p hp)]
    exact K _ (xx_mk hL hc hw hr)
theorem xx_ac38 {post : Int32 → SX → Prop} {J : Int32 → Int32 → Int32 → Int32 → Int32 → (Nat → Int32) → (Nat → Int32) → (Nat → Int32) → (Nat → Int32) → (Nat → Int64) → (Nat → Int32) → (Nat → Int32) → (Nat → Int32) → (Nat → Int32) → Prop} {n i : Nat} (h0 : 0 < n) (hn : n ≤ 5) (hr : ps_Ru c ln rl ra le) (hc : c ≤ 4) (hi : i < ps_fa n) (KJ : ∀ a', J (nI (((List.range ((i + 1) * ps_fa n)).map (ps_eX n)).countP (ps_H n c ln rl))) (nI (i + 1)) (nI L) (nI c) tc w ra le a' tk nn mp fs ss) : ∀ d j a', j + d = ps_fa n → ps_Cl a' n 0 (ps_xl n i) → wX_actions_38 post J (nI n) (nI (ps_fa n)) (nI i) (d + 1) (nI (((List.range (i * ps_fa n + j)).map (ps_eX n)).countP (ps_H n c ln rl))) (nI j) (nI L) (nI c) tc w ra le a' tk nn mp fs ss := by
  have hfa := ev_fa hn
  intro d
  induction d with
  | zero =>
    intro j a' hj hC
    obtain rfl : j = ps_fa n := by omega
    rw [← Nat.succ_mul]
    exact br_t (nI_le (by omega) (by omega)) (nm_r (nI_1 i) (KJ a'))
  | succ d ih =>
    intro j a' hj hC
    have hjN : j < ps_fa n := by omega
    have ht : i * ps_fa n + j < ps_fa n * ps_fa n := by
      have h1 : (i + 1) * ps_fa n ≤ ps_fa n * ps_fa n := Nat.mul_le_mul_right _ hi
      rw [Nat.succ_mul] at h1
      omega
    have eK := ps_eX_eq (n := n) (i := i) hjN
    have hF := ev_XLFa h0 hn (ps_eX_mem ht)
    have hG0 := ps_ac_Gd (ev_xl h0 hn hi) (ev_xl h0 hn hjN)
    refine br_f (nI_ge hjN (by omega)) (xx_setG (o := 2) h0 hn (Or.inr rfl) hjN (fun a2 hC2 hO => ?_))
    have hC1 : ps_Cl a2 n 0 (ps_xl n i) := fun p hp => by
      rw [hO _ (by omega) (by omega), hO _ (by omega) (by omega)]
      exact hC p hp
    have hI : ps_XI a2 n (ps_gk n (ps_eX n (i * ps_fa n + j))) := ps_XI_c (ps_Cl_XI hC1 hC2) (fun l hl p hp => by rw [eK]; exact ps_gk_ky hn hG0 l p hl hp)
    refine xx_rh hn hI hF.1 hr hc ?_
    have hq := ih (j + 1) a2 (by omega) hC1
    cases hH : ps_hb n c ln rl (ps_gk n (ps_eX n (i * ps_fa n + j))) with
    | false =>
      rw [← Nat.add_assoc, ps_ct_f (e := ps_eX n) (H := ps_H n c ln rl) hH] at hq
      exact br_t rfl (nm_r (nI_1 j) hq)
    | true =>
      rw [← Nat.add_assoc, ps_ct_t (e := ps_eX n) (H := ps_H n c ln rl) hH] at hq
      exact br_f (by decide) (nm_r (nI_1 _) (nm_r (nI_1 j) hq))
theorem xx_ac21 {post : Int32 → SX → Prop} {n : Nat} (h0 : 0 < n) (hn : n ≤ 5) (hr : ps_Ru c ln rl ra le) (hc : c ≤ 4) (K : ∀ a', post (nI ((ps_XL n).countP (ps_H n c ln rl))) (nI L, nI c, tc, w, ra, le, a', tk, nn, mp, fs, ss)) : ∀ d i a', i + d = ps_fa n → wX_actions_21 post (nI n) (nI (ps_fa n)) (d + 1) (nI (((List.range (i * ps_fa n)).map (ps_eX n)).countP (ps_H n c ln rl))) (nI i) (nI L) (nI c) tc w ra le a' tk nn mp fs ss := by
  have hfa := ev_fa hn
  intro d
  induction d with
  | zero =>
    intro i a' hi
    obtain rfl : i = ps_fa n := by omega
    exact br_t (nI_le (by omega) (by omega)) (K a')
  | succ d ih =>
    intro i a' hi
    exact br_f (nI_ge (by omega) (by omega)) (xx_setG (o := 0) h0 hn (Or.inl rfl) (by omega) (fun a2 hC _ => ⟨ps_fa n + 1, xx_ac38 h0 hn hr hc (by omega) (fun a' => ih (i + 1) a' (by omega)) (ps_fa n) 0 a2 (by omega) hC⟩))
theorem xx_actions_b {post : Int32 → SX → Prop} {v : Int32} (h : v < 1 ∨ 5 < v) (k : post (-1) (nI L, nI c, tc, w, ra, le, im, tk, nn, mp, fs, ss)) : wpX_actions post (nI L, nI c, tc, w, ra, le, im, tk, nn, mp, fs, ss) v := by
  unfold wpX_actions
  dsimp only
  exact xx_isP_b h (br_t rfl k)
theorem xx_actions_o {post : Int32 → SX → Prop} {n : Nat} (h0 : 0 < n) (hn : n ≤ 5) (hL : L ≤ 8) (hc : c ≤ 4) (hw : ps_Wo wn w) (hr : ps_Ru c ln rl ra le) (K : ∀ u', xx_OK L c wn ln rl u' → post (nI ((ps_XL n).countP (ps_H n c ln rl))) u') : wpX_actions post (nI L, nI c, tc, w, ra, le, im, tk, nn, mp, fs, ss) (nI n) := by
  unfold wpX_actions
  dsimp only
  refine xx_isP_o h0 hn (br_f (by decide) (xx_perm h0 hn ⟨ps_fa n + 1, ?_⟩))
  have h := xx_ac21 (L := L) (c := c) (tc := tc) (w := w) (ra := ra) (le := le) (tk := tk) (nn := nn) (mp := mp) (fs := fs) (ss := ss) h0 hn hr hc (fun a' => K _ (xx_mk hL hc hw hr)) (ps_fa n) 0 im (by omega)
  rw [Nat.zero_mul] at h
  exact h
end
end
section
/-! the component: numbering anew; even, kinds -/
def xx_nv (e : Nat) : Int32 := if e = 9 then -4 else nI e
theorem xx_nv9 : xx_nv 9 = -4 := rfl
theorem xx_nvn {e : Nat} (h : e ≠ 9) : xx_nv e = nI e := if_neg h
theorem xx_nvne {e : Nat} (h : e ≠ 9) (he : e < 9) : ¬ xx_nv e = -4 := by
  rw [xx_nvn h]
  have : ∀ e, e < 9 → ¬ nI e = -4 := by decide
  exact this e he
def xx_Rn (n : Nat) (f : Nat → Nat) (a : Nat → Int32) : Prop := ∀ q, q < n → a q = xx_nv (f q)
def ps_Rm (met : Nat) (m : Nat → Nat) (a : Nat → Int32) : Prop := ∀ i, i < met → a i = nI (m i)
theorem xx_Rn_up {n : Nat} {f : Nat → Nat} {a : Nat → Int32} (h : xx_Rn n f a) (q met : Nat) (hm : met ≠ 9) : xx_Rn n (ps_up f q met) (upd a q (nI met)) := by
  intro x hx
  show (if x = q then nI met else a x) = xx_nv (if x = q then met else f x)
  by_cases e : x = q
  · rw [if_pos e, if_pos e, xx_nvn hm]
  · rw [if_neg e, if_neg e]
    exact h x hx
theorem ps_Rm_up {met : Nat} {m : Nat → Nat} {a : Nat → Int32} (h : ps_Rm met m a) (q : Nat) : ps_Rm (met + 1) (ps_up m met q) (upd a met (nI q)) := by
  intro x hx
  show (if x = met then nI q else a x) = nI (if x = met then q else m x)
  by_cases e : x = met
  · rw [if_pos e, if_pos e]
  · rw [if_neg e, if_neg e]
    exact h x (by omega)
section
variable {L c : Nat} {tc : Int32} {w ra le im nn mp fs ss : Nat → Int32} {tk : Nat → Int64}
theorem xx_kf52 {post : Int64 → SX → Prop} {J : Int32 → Int64 → Int32 → (Nat → Int32) → (Nat → Int32) → (Nat → Int32) → (Nat → Int32) → (Nat → Int64) → (Nat → Int32) → (Nat → Int32) → (Nat → Int32) → (Nat → Int32) → Prop} {n i q0 R : Nat} {g : Nat → Nat → Nat} {k : Nat → (Nat → Nat) → (Nat → Nat) → Nat → Option Nat} (hn : n ≤ 5) (hi : i < n) (hq0 : q0 < n) (hI : ps_XI im n g) (KJ : ∀ met' f' m' key' nn' mp', met' ≤ n → xx_Rn n f' nn' → ps_Rm met' m' mp' → k met' f' m' key' = some R → J (nI met') (lN key') (nI (i + 1)) w ra le im tk nn' mp' fs ss) : ∀ d l met f m key nn' mp', l + d = 4 → i < met → met ≤ n → m i = q0 → xx_Rn n f nn' → ps_Rm met m mp' → ps_nL n g q0 k d l met f m key = some R → wX_keyFrom_52 post J (nI n) (nI i) (nI L) (nI c) tc (d + 1) (nI met) (lN key) (nI l) w ra le im tk nn' mp' fs ss := by
  intro d
  induction d with
  | zero =>
    intro l met f m key nn' mp' hl him hm hmi h1 h2 hR
    obtain rfl : l = 4 := by omega
    exact br_t (nI_le (a := 4) (b := 4) (by decide) (by decide)) (nm_r (nI_1 i) (KJ met f m key nn' mp' hm h1 h2 hR))
  | succ d ih =>
    intro l met f m key nn' mp' hl him hm hmi h1 h2 hR
    rw [ps_nL, ps_fc_eq] at hR
    by_cases hq : g l q0 < n
    · rw [if_pos hq, ps_fc_eq] at hR
      have eo : mp' (nI i).toNatClampNeg = nI q0 := ps_rd rfl (by omega) (by rw [h2 i him, hmi])
      have ex : mp' (nI i).toNatClampNeg * 4 + nI l = nI (4 * q0 + l) := by rw [eo]; exact ps_ix4 _ _
      have v8 : vp_in (nI (g l q0)) 5 := vp_in_nI (by omega) (by decide)
      have ea : nn' (nI (g l q0)).toNatClampNeg = xx_nv (f (g l q0)) := ps_rd rfl (by omega) (h1 _ hq)
      refine br_f (nI_ge (b := 4) (by omega) (by decide)) ⟨vp_in_nI (by omega) (by decide), ⟨pk_in (4 * q0 + l) 20 (by omega) ex, nm_r (e' := nI (g l q0)) (ps_rd ex (by omega) (hI l (by omega) q0 hq0)) ⟨v8, ?_⟩⟩⟩
      by_cases h9 : f (g l q0) = 9
      · rw [if_pos h9] at hR
        by_cases hmn : met < n
        · rw [if_pos hmn] at hR
          have hne : met ≠ 9 := by omega
          have hb := ih (l + 1) (met + 1) _ _ _ _ _ (by omega) (by omega) (by omega) (show ps_up m met (g l q0) i = q0 by rw [ps_up, if_neg (by omega)]; exact hmi) (xx_Rn_up h1 (g l q0) met hne) (ps_Rm_up h2 (g l q0)) hR
          refine br_t (by rw [ea, h9]; rfl) ⟨v8, nm_r (e' := upd nn' (g l q0) (nI met)) (ps_wr rfl (by omega) rfl) ⟨vp_in_nI (by omega) (by decide), nm_r (e' := upd mp' met (nI (g l q0))) (ps_wr rfl (by omega) rfl) (nm_r (nI_1 met) ⟨v8, nm_r (e' := lN (8 * key + met)) ?_ (nm_r (nI_1 l) hb)⟩)⟩⟩
          rw [ps_rd rfl (by omega) pk_us, ps_shl3 _ (by omega)]
        · rw [if_neg hmn] at hR
          cases hR
      · rw [if_neg h9] at hR
        by_cases he : f (g l q0) < n
        · rw [if_pos he] at hR
          have hb := ih (l + 1) met f m _ nn' mp' (by omega) him hm hmi h1 h2 hR
          refine br_f (by rw [ea]; exact xx_nvne h9 (by omega)) ⟨v8, nm_r (e' := lN (8 * key + f (g l q0))) ?_ (nm_r (nI_1 l) hb)⟩
          rw [ea, xx_nvn h9, ps_shl3 _ (by omega)]
        · rw [if_neg he] at hR
          cases hR
    · rw [if_neg hq] at hR
      cases hR
theorem xx_kf43 {post : Int64 → SX → Prop} {n R : Nat} {g : Nat → Nat → Nat} (hn : n ≤ 5) (hI : ps_XI im n g) (KK : ∀ nn' mp', post (lN R) (nI L, nI c, tc, w, ra, le, im, tk, nn', mp', fs, ss)) : ∀ d i met f m key nn' mp', i + d = n → met ≤ n → xx_Rn n f nn' → ps_Rm met m mp' → ps_nR n g d i met f m key = some R → wX_keyFrom_43 post (nI n) (nI L) (nI c) tc (d + 1) (nI met) (lN key) (nI i) w ra le im tk nn' mp' fs ss := by
  intro d
  induction d with
  | zero =>
    intro i met f m key nn' mp' hi hm h1 h2 hR
    obtain rfl : i = n := by omega
    have e : key = R := Option.some.inj hR
    subst e
    exact br_t (nI_le (by omega) (by omega)) (KK nn' mp')
  | succ d ih =>
    intro i met f m key nn' mp' hi hm h1 h2 hR
    rw [ps_nR] at hR
    by_cases z : i < met
    · rw [if_pos z] at hR
      by_cases z2 : m i < n
      · rw [if_pos z2] at hR
        exact br_f (nI_ge (by omega) (by omega)) ⟨5, xx_kf52 hn (by omega) z2 hI (fun met' f' m' key' nn2 mp2 q1 q2 q3 q4 => ih (i + 1) met' f' m' key' nn2 mp2 (by omega) q1 q2 q3 q4) 4 0 met f m key nn' mp' rfl z hm rfl h1 h2 hR⟩
      · rw [if_neg z2] at hR
        cases hR
    · rw [if_neg z] at hR
      cases hR
theorem xx_kf2 {post : Int64 → SX → Prop} {n s R : Nat} {g : Nat → Nat → Nat} (hn : n ≤ 5) (hs : s < n) (hI : ps_XI im n g) (hR : ps_rn n g s = some R) (KK : ∀ nn' mp', post (lN R) (nI L, nI c, tc, w, ra, le, im, tk, nn', mp', fs, ss)) : ∀ d i nn', i + d = n → (∀ q, q < i → nn' q = -4) → wX_keyFrom_2 post (nI n) (nI s) (nI L) (nI c) tc (d + 1) (nI i) w ra le im tk nn' mp fs ss := by
  intro d
  induction d with
  | zero =>
    intro i nn' hi h
    obtain rfl : i = n := by omega
    refine br_t (nI_le (by omega) (by omega)) ⟨vp_in_nI (by omega) (by decide), nm_r (e' := upd nn' s (nI 0)) (ps_wr rfl (by omega) rfl) (nm_e ⟨i + 1, xx_kf43 hn hI KK i 0 1 _ _ 0 _ _ (by omega) (by omega) (xx_Rn_up (f := fun _ => 9) (fun q hq => ?_) s 0 (by decide)) (fun j hj => ?_) hR⟩)⟩
    · exact h q hq
    · obtain rfl : j = 0 := by omega
      exact pk_us
  | succ d ih =>
    intro i nn' hi h
    refine br_f (nI_ge (by omega) (by omega)) ⟨vp_in_nI (by omega) (by decide), nm_r (e' := upd nn' i (-4)) (ps_wr rfl (by omega) rfl) (nm_r (nI_1 i) (ih (i + 1) _ (by omega) (fun q hq => ?_)))⟩
    by_cases e : q = i
    · subst e
      exact pk_us
    · rw [pk_un e]
      exact h q (by omega)
theorem xx_kfrom {post : Int64 → SX → Prop} {n s R : Nat} {g : Nat → Nat → Nat} (hn : n ≤ 5) (hs : s < n) (hI : ps_XI im n g) (hR : ps_rn n g s = some R) (KK : ∀ nn' mp', post (lN R) (nI L, nI c, tc, w, ra, le, im, tk, nn', mp', fs, ss)) : wpX_keyFrom post (nI L, nI c, tc, w, ra, le, im, tk, nn, mp, fs, ss) (nI n) (nI s) :=
  ⟨n + 1, xx_kf2 hn hs hI hR KK n 0 nn (by omega) (fun q hq => by omega)⟩
theorem xx_al3 {post : Int32 → SX → Prop} {n K : Nat} (hn : n ≤ 5) (hK : ps_D5 (4 * n) K) (hI : ps_XI im n (ps_gk n K)) (hs : ∀ s, s < n → ∃ R, ps_rn n (ps_gk n K) s = some R ∧ ps_D5 (4 * n) R) (KK : ∀ nn' mp', post (ps_b (ps_al n K)) (nI L, nI c, tc, w, ra, le, im, tk, nn', mp', fs, ss)) : ∀ d s nn' mp', s + d = n → 0 < s → (∀ q, q < s → 0 < q → ps_rn n (ps_gk n K) q = some K) → wX_isAlikeToItselfOnly_3 post (nI n) (lN K) (d + 1) (nI s) (nI L) (nI c) tc w ra le im tk nn' mp' fs ss := by
  intro d
  induction d with
  | zero =>
    intro s nn' mp' hd h0 h
    obtain rfl : s = n := by omega
    have e : ps_al s K = true := decide_eq_true h
    have k := KK nn' mp'
    rw [e] at k
    exact br_t (nI_le (by omega) (by omega)) k
  | succ d ih =>
    intro s nn' mp' hd h0 h
    obtain ⟨R, hR, hD⟩ := hs s (by omega)
    refine br_f (nI_ge (by omega) (by omega)) (xx_kfrom hn (by omega) hI hR (fun nn2 mp2 => ?_))
    have b1 : R < 2 ^ 63 := Nat.lt_trans (ps_K8 hn hD) (by decide)
    have b2 : K < 2 ^ 63 := Nat.lt_trans (ps_K8 hn hK) (by decide)
    by_cases z : R = K
    · subst z
      refine br_t rfl (nm_r (nI_1 s) (ih (s + 1) nn2 mp2 (by omega) (by omega) (fun q h1 h2 => ?_)))
      by_cases e : q = s
      · rw [e]
        exact hR
      · exact h q (by omega) h2
    · have e : ps_al n K = false := decide_eq_false (fun hh => z (Option.some.inj (hR.symm.trans (hh s (by omega) h0))))
      have k := KK nn2 mp2
      rw [e] at k
      exact br_f (fun q => z ((pk_lEQ b1 b2).mp q)) k
theorem xx_alike {post : Int32 → SX → Prop} {n K : Nat} {e : Int64} (he : e = lN K) (h0 : 0 < n) (hn : n ≤ 5) (hK : ps_D5 (4 * n) K) (hI : ps_XI im n (ps_gk n K)) (hs : ∀ s, s < n → ∃ R, ps_rn n (ps_gk n K) s = some R ∧ ps_D5 (4 * n) R) (KK : ∀ nn' mp', post (ps_b (ps_al n K)) (nI L, nI c, tc, w, ra, le, im, tk, nn', mp', fs, ss)) : wpX_isAlikeToItselfOnly post (nI L, nI c, tc, w, ra, le, im, tk, nn, mp, fs, ss) (nI n) e := by
  subst he
  exact ⟨n - 1 + 1, xx_al3 hn hK hI hs KK (n - 1) 1 nn mp (by omega) (by omega) (fun q h1 h2 => by omega)⟩
theorem xx_fi3 {post : Int32 → SX → Prop} {n K : Nat} (hn : n ≤ 5) (hK : ps_D5 (4 * n) K) (hI : ps_XI im n (ps_gk n K)) (hs : ∀ s, s < n → ∃ R, ps_rn n (ps_gk n K) s = some R ∧ ps_D5 (4 * n) R) (KK : ∀ nn' mp', post (ps_b (ps_fi n K)) (nI L, nI c, tc, w, ra, le, im, tk, nn', mp', fs, ss)) : ∀ d s nn' mp', s + d = n → 0 < s → (∀ q, q < s → 0 < q → ps_ltO n K q = false) → wX_isFirstOfItsKind_3 post (nI n) (lN K) (d + 1) (nI s) (nI L) (nI c) tc w ra le im tk nn' mp' fs ss := by
  intro d
  induction d with
  | zero =>
    intro s nn' mp' hd h0 h
    obtain rfl : s = n := by omega
    have e : ps_fi s K = true := decide_eq_true h
    have k := KK nn' mp'
    rw [e] at k
    exact br_t (nI_le (by omega) (by omega)) k
  | succ d ih =>
    intro s nn' mp' hd h0 h
    obtain ⟨R, hR, hD⟩ := hs s (by omega)
    refine br_f (nI_ge (by omega) (by omega)) (xx_kfrom hn (by omega) hI hR (fun nn2 mp2 => ?_))
    have b1 : R < 2 ^ 63 := Nat.lt_trans (ps_K8 hn hD) (by decide)
    have b2 : K < 2 ^ 63 := Nat.lt_trans (ps_K8 hn hK) (by decide)
    have el : ps_ltO n K s = decide (R < K) := by rw [ps_ltO, hR]
    by_cases z : K ≤ R
    · refine br_t ((pk_lLE b2 b1).mpr z) (nm_r (nI_1 s) (ih (s + 1) nn2 mp2 (by omega) (by omega) (fun q h1 h2 => ?_)))
      by_cases e : q = s
      · rw [e, el]
        exact decide_eq_false (by omega)
      · exact h q (by omega) h2
    · have e : ps_fi n K = false := decide_eq_false (fun hh => by
        have q := hh s (by omega) h0
        rw [el] at q
        exact absurd (of_decide_eq_false q) (by omega))
      have k := KK nn2 mp2
      rw [e] at k
      exact br_f (fun q => z ((pk_lLE b2 b1).mp q)) k
theorem xx_first {post : Int32 → SX → Prop} {n K : Nat} {e : Int64} (he : e = lN K) (h0 : 0 < n) (hn : n ≤ 5) (hK : ps_D5 (4 * n) K) (hI : ps_XI im n (ps_gk n K)) (hs : ∀ s, s < n → ∃ R, ps_rn n (ps_gk n K) s = some R ∧ ps_D5 (4 * n) R) (KK : ∀ nn' mp', post (ps_b (ps_fi n K)) (nI L, nI c, tc, w, ra, le, im, tk, nn', mp', fs, ss)) : wpX_isFirstOfItsKind post (nI L, nI c, tc, w, ra, le, im, tk, nn, mp, fs, ss) (nI n) e := by
  subst he
  exact ⟨n - 1 + 1, xx_fi3 hn hK hI hs KK (n - 1) 1 nn mp (by omega) (by omega) (fun q h1 h2 => by omega)⟩
end
section
variable {L c : Nat} {tc : Int32} {w ra le im nn mp fs ss : Nat → Int32} {tk : Nat → Int64}
variable {wn ln : Nat → Nat} {rl : Nat → Nat → Nat}
theorem xx_even19 {post : Int32 → SX → Prop} {n : Nat} {T : List Nat} (h0 : 0 < n) (hn : n ≤ 5) (hT : T.length ≤ 461) (hF : ∀ k, k < T.length → ps_Fa n (T.getD k 0) ∧ ∀ s, s < n → ∃ R, ps_rn n (ps_gk n (T.getD k 0)) s = some R ∧ ps_D5 (4 * n) R) (hA : ps_Ar tk 0 T) (K : ∀ a' nn' mp', post (nI (ps_cn (fun k => ps_al n (T.getD k 0)) T.length)) (nI L, nI c, nI T.length, w, ra, le, a', tk, nn', mp', fs, ss)) : ∀ d k a' nn' mp', k + d = T.length → wX_even_19 post (nI n) (d + 1) (nI (ps_cn (fun k => ps_al n (T.getD k 0)) k)) (nI k) (nI L) (nI c) (nI T.length) w ra le a' tk nn' mp' fs ss := by
  intro d
  induction d with
  | zero =>
    intro k a' nn' mp' hk
    obtain rfl : k = T.length := by omega
    exact br_t (nI_le (by omega) (by omega)) (K a' nn' mp')
  | succ d ih =>
    intro k a' nn' mp' hk
    have hkT : k < T.length := by omega
    have f := hF k hkT
    have et : tk k = lN (T.getD k 0) := by
      have q := hA k hkT
      rw [Nat.zero_add] at q
      exact q
    refine br_f (nI_ge hkT (by omega)) (xx_load hn (by omega) et (ps_K8 hn f.1.2.2) (fun a2 hI => ⟨vp_in_nI (by omega) (by decide), xx_alike (ps_rdL rfl (by omega) et) h0 hn f.1.2.2 hI f.2 (fun nn2 mp2 => ?_)⟩))
    have hq := ih (k + 1) a2 nn2 mp2 (by omega)
    rw [ps_cn] at hq
    cases e : ps_al n (T.getD k 0) with
    | false =>
      rw [e] at hq
      exact br_t rfl (nm_r (nI_1 k) hq)
    | true =>
      rw [e] at hq
      exact br_f (by decide) (nm_r (nI_1 _) (nm_r (nI_1 k) hq))
theorem xx_even_b {post : Int32 → SX → Prop} {v : Int32} (h : v < 1 ∨ 5 < v) (k : post (-1) (nI L, nI c, tc, w, ra, le, im, tk, nn, mp, fs, ss)) : wpX_even post (nI L, nI c, tc, w, ra, le, im, tk, nn, mp, fs, ss) v := by
  unfold wpX_even
  dsimp only
  exact xx_isP_b h (br_t rfl k)
theorem xx_even_o {post : Int32 → SX → Prop} {n : Nat} (h0 : 0 < n) (hn : n ≤ 5) (hL : L ≤ 8) (hc : c ≤ 4) (hw : ps_Wo wn w) (hr : ps_Ru c ln rl ra le) (K : ∀ u', xx_OK L c wn ln rl u' → post (nI (ps_cn (fun k => ps_al n ((ps_TL n (ps_G n c ln rl)).getD k 0)) (ps_TL n (ps_G n c ln rl)).length)) u') : wpX_even post (nI L, nI c, tc, w, ra, le, im, tk, nn, mp, fs, ss) (nI n) := by
  unfold wpX_even
  dsimp only
  exact xx_isP_o h0 hn (br_f (by decide) (xx_find h0 hn hr hc (fun a' tk' hA => ⟨(ps_TL n (ps_G n c ln rl)).length + 1, xx_even19 h0 hn (ps_TL_len h0 hn) (fun k hk => ps_TLFa h0 hn hk) hA (fun a2 nn2 mp2 => K _ (xx_mk hL hc hw hr)) (ps_TL n (ps_G n c ln rl)).length 0 a' nn mp (by omega)⟩)))
theorem xx_kinds19 {post : Int32 → SX → Prop} {n : Nat} {T : List Nat} (h0 : 0 < n) (hn : n ≤ 5) (hT : T.length ≤ 461) (hF : ∀ k, k < T.length → ps_Fa n (T.getD k 0) ∧ ∀ s, s < n → ∃ R, ps_rn n (ps_gk n (T.getD k 0)) s = some R ∧ ps_D5 (4 * n) R) (hA : ps_Ar tk 0 T) (K : ∀ a' nn' mp', post (nI (ps_cn (fun k => ps_fi n (T.getD k 0)) T.length)) (nI L, nI c, nI T.length, w, ra, le, a', tk, nn', mp', fs, ss)) : ∀ d k a' nn' mp', k + d = T.length → wX_kinds_19 post (nI n) (d + 1) (nI (ps_cn (fun k => ps_fi n (T.getD k 0)) k)) (nI k) (nI L) (nI c) (nI T.length) w ra le a' tk nn' mp' fs ss := by
  intro d
  induction d with
  | zero =>
    intro k a' nn' mp' hk
    obtain rfl : k = T.length := by omega
    exact br_t (nI_le (by omega) (by omega)) (K a' nn' mp')
  | succ d ih =>
    intro k a' nn' mp' hk
    have hkT : k < T.length := by omega
    have f := hF k hkT
    have et : tk k = lN (T.getD k 0) := by
      have q := hA k hkT
      rw [Nat.zero_add] at q
      exact q
    refine br_f (nI_ge hkT (by omega)) (xx_load hn (by omega) et (ps_K8 hn f.1.2.2) (fun a2 hI => ⟨vp_in_nI (by omega) (by decide), xx_first (ps_rdL rfl (by omega) et) h0 hn f.1.2.2 hI f.2 (fun nn2 mp2 => ?_)⟩))
    have hq := ih (k + 1) a2 nn2 mp2 (by omega)
    rw [ps_cn] at hq
    cases e : ps_fi n (T.getD k 0) with
    | false =>
      rw [e] at hq
      exact br_t rfl (nm_r (nI_1 k) hq)
    | true =>
      rw [e] at hq
      exact br_f (by decide) (nm_r (nI_1 _) (nm_r (nI_1 k) hq))
theorem xx_kinds_b {post : Int32 → SX → Prop} {v : Int32} (h : v < 1 ∨ 5 < v) (k : post (-1) (nI L, nI c, tc, w, ra, le, im, tk, nn, mp, fs, ss)) : wpX_kinds post (nI L, nI c, tc, w, ra, le, im, tk, nn, mp, fs, ss) v := by
  unfold wpX_kinds
  dsimp only
  exact xx_isP_b h (br_t rfl k)
theorem xx_kinds_o {post : Int32 → SX → Prop} {n : Nat} (h0 : 0 < n) (hn : n ≤ 5) (hL : L ≤ 8) (hc : c ≤ 4) (hw : ps_Wo wn w) (hr : ps_Ru c ln rl ra le) (K : ∀ u', xx_OK L c wn ln rl u' → post (nI (ps_cn (fun k => ps_fi n ((ps_TL n (ps_G n c ln rl)).getD k 0)) (ps_TL n (ps_G n c ln rl)).length)) u') : wpX_kinds post (nI L, nI c, tc, w, ra, le, im, tk, nn, mp, fs, ss) (nI n) := by
  unfold wpX_kinds
  dsimp only
  exact xx_isP_o h0 hn (br_f (by decide) (xx_find h0 hn hr hc (fun a' tk' hA => ⟨(ps_TL n (ps_G n c ln rl)).length + 1, xx_kinds19 h0 hn (ps_TL_len h0 hn) (fun k hk => ps_TLFa h0 hn hk) hA (fun a2 nn2 mp2 => K _ (xx_mk hL hc hw hr)) (ps_TL n (ps_G n c ln rl)).length 0 a' nn mp (by omega)⟩)))
end
end
section
/-! the component: the word in a table; period, fixing, still -/
def ps_wq (wn : Nat → Nat) (L n : Nat) (T : List Nat) : Bool := decide (∀ k, k < T.length → ps_wa wn L n (T.getD k 0) = true)
def ps_sN (c : Nat) (ln : Nat → Nat) (rl : Nat → Nat → Nat) (wn : Nat → Nat) (L N : Nat) : Bool := decide (∀ n, n < N → (0 < n → ps_wq wn L n (ps_TL n (ps_G n c ln rl)) = true))
def ps_sb (c : Nat) (ln : Nat → Nat) (rl : Nat → Nat → Nat) (wn : Nat → Nat) (L : Nat) : Bool := ps_sN c ln rl wn L 6
section
variable {L c : Nat} {tc : Int32} {w ra le im nn mp fs ss : Nat → Int32} {tk : Nat → Int64}
variable {wn ln : Nat → Nat} {rl : Nat → Nat → Nat}
theorem xx_wkW7 {post : Int32 → Prop} {n p : Nat} {g : Nat → Nat → Nat} (hn : n ≤ 5) (hI : ps_XI im n g) (hg : ps_Gd n g) (hL : L ≤ 8) (hw : ps_Wo wn w) (hp : p < n) (K : post (nI (ps_wk g wn L p))) : ∀ d i, i + d = L → wX_walk__wordLetters_7 post (nI 0) (nI L) (nI L) (nI c) tc w ra le im tk nn mp fs ss (d + 1) (nI (ps_wk g wn i p)) (nI i) := by
  intro d
  induction d with
  | zero =>
    intro i hi
    obtain rfl : i = L := by omega
    exact br_t (nI_le (by omega) (by omega)) K
  | succ d ih =>
    intro i hi
    have h4 := (hw i).1
    have hat := ps_wk_lt (r := wn) hg i p (fun j hj => (hw j).1) hp
    have e0 : nI 0 + nI i = nI i := by rw [nI_add, Nat.zero_add]
    have er : w (nI 0 + nI i).toNatClampNeg = nI (wn i) := ps_rd e0 (by omega) (hw i).2
    have ex : nI (ps_wk g wn i p) * 4 + w (nI 0 + nI i).toNatClampNeg = nI (4 * ps_wk g wn i p + wn i) := by rw [er]; exact ps_ix4 _ _
    exact br_f (nI_ge (by omega) (by omega)) ⟨pk_in i 8 (by omega) e0, ⟨pk_in (4 * ps_wk g wn i p + wn i) 20 (by omega) ex, nm_r (e' := nI (ps_wk g wn (i + 1) p)) (ps_rd ex (by omega) (hI _ h4 _ hat)) (nm_r (nI_1 i) (ih (i + 1) (by omega)))⟩⟩
theorem xx_wimg {post : Int32 → Prop} {n p : Nat} {g : Nat → Nat → Nat} (hn : n ≤ 5) (hI : ps_XI im n g) (hg : ps_Gd n g) (hL : L ≤ 8) (hw : ps_Wo wn w) (hp : p < n) (K : post (nI (ps_wk g wn L p))) : wpX_wordImage post (nI L, nI c, tc, w, ra, le, im, tk, nn, mp, fs, ss) (nI p) := by
  unfold wpX_wordImage
  dsimp only
  exact ⟨L + 1, xx_wkW7 hn hI hg hL hw hp K L 0 (by omega)⟩
theorem xx_per41 {post : Int32 → SX → Prop} {n m : Nat} {g : Nat → Nat → Nat} (h0 : 0 < n) (hn : n ≤ 5) (hI : ps_XI im n g) (hg : ps_Gd n g) (hL : L ≤ 8) (hw : ps_Wo wn w) (hm : m ≤ n) (hz : ps_it (ps_wk g wn L) m = 0) (hl : ∀ j, 1 ≤ j → j < m → ps_it (ps_wk g wn L) j ≠ 0) (K : post (nI m) (nI L, nI c, tc, w, ra, le, im, tk, nn, mp, fs, ss)) : ∀ d t, t + d = m → 1 ≤ t → wX_period_41 post (nI n) (nI L) (nI c) tc w ra le im tk nn mp fs ss (d + 1) (nI t) (nI (ps_it (ps_wk g wn L) t)) := by
  intro d
  induction d with
  | zero =>
    intro t ht h1
    obtain rfl : t = m := by omega
    exact br_t (by rw [hz]; rfl) K
  | succ d ih =>
    intro t ht h1
    have hlt : ps_it (ps_wk g wn L) t < n := ps_it_lt h0 (fun p hp => ps_wk_lt hg L p (fun j hj => (hw j).1) hp) t
    have hne := hl t h1 (by omega)
    exact br_f (nI_ne0 (by omega) (by omega)) (br_f (nI_ge (by omega) (by omega)) (xx_wimg hn hI hg hL hw hlt (nm_r (nI_1 t) (ih (t + 1) (by omega) (by omega)))))
theorem xx_period_b {post : Int32 → SX → Prop} {v v2 : Int32} (h : v < 1 ∨ 5 < v) (k : post (-1) (nI L, nI c, tc, w, ra, le, im, tk, nn, mp, fs, ss)) : wpX_period post (nI L, nI c, tc, w, ra, le, im, tk, nn, mp, fs, ss) v v2 := by
  unfold wpX_period
  dsimp only
  exact xx_isP_b h (br_t rfl k)
theorem xx_period_n {post : Int32 → SX → Prop} {n : Nat} {v2 : Int32} (h0 : 0 < n) (hn : n ≤ 5) (hL : L ≤ 8) (hc : c ≤ 4) (hw : ps_Wo wn w) (hr : ps_Ru c ln rl ra le) (h : v2 < 0 ∨ nI (ps_TL n (ps_G n c ln rl)).length ≤ v2) (K : ∀ u', xx_OK L c wn ln rl u' → post (-4) u') : wpX_period post (nI L, nI c, tc, w, ra, le, im, tk, nn, mp, fs, ss) (nI n) v2 := by
  unfold wpX_period
  dsimp only
  exact xx_isP_o h0 hn (br_f (by decide) (xx_find h0 hn hr hc (fun a' tk' _ => xx_isTN_b h (br_t rfl (K _ (xx_mk hL hc hw hr))))))
theorem xx_period_o {post : Int32 → SX → Prop} {n k m : Nat} (h0 : 0 < n) (hn : n ≤ 5) (hL : L ≤ 8) (hc : c ≤ 4) (hw : ps_Wo wn w) (hr : ps_Ru c ln rl ra le) (h : k < (ps_TL n (ps_G n c ln rl)).length) (h1 : 1 ≤ m) (hm : m ≤ n) (hz : ps_it (ps_wk (ps_gk n ((ps_TL n (ps_G n c ln rl)).getD k 0)) wn L) m = 0) (hl : ∀ j, 1 ≤ j → j < m → ps_it (ps_wk (ps_gk n ((ps_TL n (ps_G n c ln rl)).getD k 0)) wn L) j ≠ 0) (K : ∀ u', xx_OK L c wn ln rl u' → post (nI m) u') : wpX_period post (nI L, nI c, tc, w, ra, le, im, tk, nn, mp, fs, ss) (nI n) (nI k) := by
  have hT := ps_TL_len (c := c) (ln := ln) (rl := rl) h0 hn
  have hF := (ps_TLFa h0 hn h).1
  unfold wpX_period
  dsimp only
  refine xx_isP_o h0 hn (br_f (by decide) (xx_find h0 hn hr hc (fun a' tk' hA => xx_isTN_o h hT (br_f (by decide) (xx_load hn (by omega) ?_ (ps_K8 hn hF.2.2) (fun a2 hI => xx_wimg (p := 0) hn hI hF.1 hL hw h0 ⟨m - 1 + 1, xx_per41 h0 hn hI hF.1 hL hw hm hz hl (K _ (xx_mk hL hc hw hr)) (m - 1) 1 (by omega) (by omega)⟩))))))
  have q := hA k h
  rw [Nat.zero_add] at q
  exact q
theorem xx_fix19 {post : Int32 → SX → Prop} {n : Nat} {T : List Nat} (h0 : 0 < n) (hn : n ≤ 5) (hL : L ≤ 8) (hw : ps_Wo wn w) (hT : T.length ≤ 461) (hF : ∀ k, k < T.length → ps_Fa n (T.getD k 0)) (hA : ps_Ar tk 0 T) (K : ∀ a', post (nI (ps_cn (fun k => ps_fx wn L n (T.getD k 0)) T.length)) (nI L, nI c, nI T.length, w, ra, le, a', tk, nn, mp, fs, ss)) : ∀ d k a', k + d = T.length → wX_fixing_19 post (nI n) (d + 1) (nI (ps_cn (fun k => ps_fx wn L n (T.getD k 0)) k)) (nI k) (nI L) (nI c) (nI T.length) w ra le a' tk nn mp fs ss := by
  intro d
  induction d with
  | zero =>
    intro k a' hk
    obtain rfl : k = T.length := by omega
    exact br_t (nI_le (by omega) (by omega)) (K a')
  | succ d ih =>
    intro k a' hk
    have hkT : k < T.length := by omega
    have f := hF k hkT
    have et : tk k = lN (T.getD k 0) := by
      have q := hA k hkT
      rw [Nat.zero_add] at q
      exact q
    refine br_f (nI_ge hkT (by omega)) (xx_load hn (by omega) et (ps_K8 hn f.2.2) (fun a2 hI => xx_wimg (p := 0) hn hI f.1 hL hw h0 ?_))
    have hq := ih (k + 1) a2 (by omega)
    have hlt := ps_wk_lt (r := wn) f.1 L 0 (fun j hj => (hw j).1) h0
    rw [ps_cn] at hq
    by_cases z : ps_wk (ps_gk n (T.getD k 0)) wn L 0 = 0
    · have e : ps_fx wn L n (T.getD k 0) = true := decide_eq_true z
      rw [e] at hq
      exact br_t (by rw [z]; rfl) (nm_r (nI_1 _) (nm_r (nI_1 k) hq))
    · have e : ps_fx wn L n (T.getD k 0) = false := decide_eq_false z
      rw [e] at hq
      exact br_f (nI_ne0 (by omega) (by omega)) (nm_r (nI_1 k) hq)
theorem xx_fixing_b {post : Int32 → SX → Prop} {v : Int32} (h : v < 1 ∨ 5 < v) (k : post (-1) (nI L, nI c, tc, w, ra, le, im, tk, nn, mp, fs, ss)) : wpX_fixing post (nI L, nI c, tc, w, ra, le, im, tk, nn, mp, fs, ss) v := by
  unfold wpX_fixing
  dsimp only
  exact xx_isP_b h (br_t rfl k)
theorem xx_fixing_o {post : Int32 → SX → Prop} {n : Nat} (h0 : 0 < n) (hn : n ≤ 5) (hL : L ≤ 8) (hc : c ≤ 4) (hw : ps_Wo wn w) (hr : ps_Ru c ln rl ra le) (K : ∀ u', xx_OK L c wn ln rl u' → post (nI (ps_cn (fun k => ps_fx wn L n ((ps_TL n (ps_G n c ln rl)).getD k 0)) (ps_TL n (ps_G n c ln rl)).length)) u') : wpX_fixing post (nI L, nI c, tc, w, ra, le, im, tk, nn, mp, fs, ss) (nI n) := by
  unfold wpX_fixing
  dsimp only
  exact xx_isP_o h0 hn (br_f (by decide) (xx_find h0 hn hr hc (fun a' tk' hA => ⟨(ps_TL n (ps_G n c ln rl)).length + 1, xx_fix19 h0 hn hL hw (ps_TL_len h0 hn) (fun k hk => (ps_TLFa h0 hn hk).1) hA (fun a2 => K _ (xx_mk hL hc hw hr)) (ps_TL n (ps_G n c ln rl)).length 0 a' (by omega)⟩)))
theorem xx_wfa2 {post : Int32 → Prop} {n K : Nat} (hn : n ≤ 5) (hI : ps_XI im n (ps_gk n K)) (hg : ps_Gd n (ps_gk n K)) (hL : L ≤ 8) (hw : ps_Wo wn w) (KK : post (ps_b (ps_wa wn L n K))) : ∀ d p, p + d = n → (∀ q, q < p → ps_wk (ps_gk n K) wn L q = q) → wX_wordFixesAll_2 post (nI n) (nI L) (nI c) tc w ra le im tk nn mp fs ss (d + 1) (nI p) := by
  intro d
  induction d with
  | zero =>
    intro p hp h
    obtain rfl : p = n := by omega
    have e : ps_wa wn L p K = true := decide_eq_true h
    rw [e] at KK
    exact br_t (nI_le (by omega) (by omega)) KK
  | succ d ih =>
    intro p hp h
    have hlt := ps_wk_lt (r := wn) hg L p (fun j hj => (hw j).1) (by omega)
    refine br_f (nI_ge (by omega) (by omega)) (xx_wimg hn hI hg hL hw (by omega) ?_)
    by_cases z : ps_wk (ps_gk n K) wn L p = p
    · exact br_t (by rw [z]) (nm_r (nI_1 p) (ih (p + 1) (by omega) (lt_s h z)))
    · have e : ps_wa wn L n K = false := decide_eq_false (fun hh => z (hh p (by omega)))
      rw [e] at KK
      exact br_f (fun q => z ((nI_eq (by omega) (by omega)).mp q)) KK
theorem xx_still14 {post : Int32 → SX → Prop} {J : Int32 → Int32 → Int32 → Int32 → (Nat → Int32) → (Nat → Int32) → (Nat → Int32) → (Nat → Int32) → (Nat → Int64) → (Nat → Int32) → (Nat → Int32) → (Nat → Int32) → (Nat → Int32) → Prop} {n : Nat} {T : List Nat} (h0 : 0 < n) (hn : n ≤ 5) (hL : L ≤ 8) (hw : ps_Wo wn w) (hT : T.length ≤ 461) (hF : ∀ k, k < T.length → ps_Fa n (T.getD k 0)) (hA : ps_Ar tk 0 T) (k0 : ∀ a', (∃ k, k < T.length ∧ ps_wa wn L n (T.getD k 0) = false) → post 0 (nI L, nI c, nI T.length, w, ra, le, a', tk, nn, mp, fs, ss)) (k1 : ∀ a', (∀ k, k < T.length → ps_wa wn L n (T.getD k 0) = true) → J (nI (n + 1)) (nI L) (nI c) (nI T.length) w ra le a' tk nn mp fs ss) : ∀ d k a', k + d = T.length → (∀ q, q < k → ps_wa wn L n (T.getD q 0) = true) → wX_still_14 post J (nI n) (d + 1) (nI k) (nI L) (nI c) (nI T.length) w ra le a' tk nn mp fs ss := by
  intro d
  induction d with
  | zero =>
    intro k a' hk h
    obtain rfl : k = T.length := by omega
    exact br_t (nI_le (by omega) (by omega)) (nm_r (nI_1 n) (k1 a' h))
  | succ d ih =>
    intro k a' hk h
    have hkT : k < T.length := by omega
    have f := hF k hkT
    have et : tk k = lN (T.getD k 0) := by
      have q := hA k hkT
      rw [Nat.zero_add] at q
      exact q
    refine br_f (nI_ge hkT (by omega)) (xx_load hn (by omega) et (ps_K8 hn f.2.2) (fun a2 hI => ⟨n + 1, xx_wfa2 hn hI f.1 hL hw ?_ n 0 (by omega) (fun q hq => by omega)⟩))
    cases e : ps_wa wn L n (T.getD k 0) with
    | false => exact br_t rfl (k0 a2 ⟨k, hkT, e⟩)
    | true => exact br_f (by decide) (nm_r (nI_1 k) (ih (k + 1) a2 (by omega) (lt_s h e)))
theorem xx_still2 {post : Int32 → SX → Prop} (hL : L ≤ 8) (hc : c ≤ 4) (hw : ps_Wo wn w) (hr : ps_Ru c ln rl ra le) (K : ∀ u', xx_OK L c wn ln rl u' → post (ps_b (ps_sb c ln rl wn L)) u') : ∀ d n tc' a' tk', n + d = 6 → 0 < n → (∀ m, m < n → 0 < m → ps_wq wn L m (ps_TL m (ps_G m c ln rl)) = true) → wX_still_2 post (d + 1) (nI n) (nI L) (nI c) tc' w ra le a' tk' nn mp fs ss := by
  intro d
  induction d with
  | zero =>
    intro n tc' a' tk' hn h0 h
    obtain rfl : n = 6 := by omega
    have e : ps_sb c ln rl wn L = true := decide_eq_true h
    rw [e] at K
    exact br_t (nI_lt (a := 5) (b := 6) (by decide) (by decide)) (K _ (xx_mk hL hc hw hr))
  | succ d ih =>
    intro n tc' a' tk' hn h0 h
    refine br_f (nI_nlt (a := 5) (by omega) (by decide)) (xx_find h0 (by omega) hr hc (fun a2 tk2 hA => ⟨(ps_TL n (ps_G n c ln rl)).length + 1, xx_still14 h0 (by omega) hL hw (ps_TL_len h0 (by omega)) (fun k hk => (ps_TLFa h0 (by omega) hk).1) hA (fun a3 hx => ?_) (fun a3 hx => ih (n + 1) _ a3 tk2 (by omega) (by omega) (fun m h1 h2 => ?_)) (ps_TL n (ps_G n c ln rl)).length 0 a2 (by omega) (fun q hq => by omega)⟩))
    · obtain ⟨k, hk, hf⟩ := hx
      have e : ps_sb c ln rl wn L = false := decide_eq_false (fun hh => by
        have q := of_decide_eq_true (hh n (by omega) h0) k hk
        rw [hf] at q
        cases q)
      rw [e] at K
      exact K _ (xx_mk hL hc hw hr)
    · by_cases e : m = n
      · subst e
        exact decide_eq_true hx
      · exact h m (by omega) h2
theorem xx_still {post : Int32 → SX → Prop} (hL : L ≤ 8) (hc : c ≤ 4) (hw : ps_Wo wn w) (hr : ps_Ru c ln rl ra le) (K : ∀ u', xx_OK L c wn ln rl u' → post (ps_b (ps_sb c ln rl wn L)) u') : wpX_still post (nI L, nI c, tc, w, ra, le, im, tk, nn, mp, fs, ss) :=
  ⟨5 + 1, xx_still2 hL hc hw hr K 5 1 tc im tk (by omega) (by omega) (fun m h1 h2 => by omega)⟩
end
end
section
/-! the component: cyclic -/
def ps_F (gen : Nat) (ln : Nat → Nat) (rl : Nat → Nat → Nat) (k : Nat) : Int := ps_su gen (rl k) (ln k)
theorem ps_F_b {c gen : Nat} {ln : Nat → Nat} {rl : Nat → Nat → Nat} {ra le : Nat → Int32} (hr : ps_Ru c ln rl ra le) {k : Nat} (hk : k < c) : -8 ≤ ps_F gen ln rl k ∧ ps_F gen ln rl k ≤ 8 := by
  have a := ps_su_b gen (rl k) (ln k)
  have b := (hr k hk).1
  rw [ps_F]
  omega
theorem ps_gx {gen : Nat} (hg : gen = 0 ∨ gen = 2) : nI gen ^^^ 1 = nI (gen + 1) := by rcases hg with rfl | rfl <;> decide
theorem ps_xy_b {x y m : Nat} {F S : Int} (hm : m ≤ 1000) (hx : x < m) (hy : y < m) (hF : -8 ≤ F ∧ F ≤ 8) (hS : -8 ≤ S ∧ S ≤ 8) : -1000000 ≤ (x : Int) * F + (y : Int) * S ∧ (x : Int) * F + (y : Int) * S ≤ 1000000 := by
  have a := ps_xF (x := x) (by omega) hF.1 hF.2
  have b := ps_xF (x := y) (by omega) hS.1 hS.2
  omega
section
variable {L c : Nat} {tc : Int32} {w ra le im nn mp fs ss : Nat → Int32} {tk : Nat → Int64}
variable {wn ln : Nat → Nat} {rl : Nat → Nat → Nat}
theorem xx_sur5 {post : Int32 → Prop} {k gen : Nat} (hg : gen = 0 ∨ gen = 2) (hc : c ≤ 4) (hr : ps_Ru c ln rl ra le) (hk : k < c) (K : post (ps_iI (ps_F gen ln rl k))) : ∀ d i, i + d = ln k → wX_surplus_5 post (nI k) (nI gen) (nI L) (nI c) tc w ra le im tk nn mp fs ss (d + 1) (ps_iI (ps_su gen (rl k) i)) (nI i) := by
  have g := hr k hk
  have g1 := g.1
  have v4 : vp_in (nI k) 4 := vp_in_nI (by omega) (by decide)
  have el : le (nI k).toNatClampNeg = nI (ln k) := ps_rd rfl (by omega) g.2.1
  have hg2 : gen ≤ 2 := by omega
  intro d
  induction d with
  | zero =>
    intro i hi
    obtain rfl : i = ln k := by omega
    exact ⟨v4, br_t (by rw [el]; exact nI_le (by omega) (by omega)) K⟩
  | succ d ih =>
    intro i hi
    have hl := g.2.2 i (by omega)
    have h4 := hl.1
    have hq := ih (i + 1) (by omega)
    rw [ps_su] at hq
    refine ⟨v4, br_f (by rw [el]; exact nI_ge (by omega) (by omega)) ⟨pk_in (8 * k + i) 32 (by omega) (ps_ix8 k i), nm_r (e' := nI (rl k i)) (ps_rd (ps_ix8 k i) (by omega) hl.2) ?_⟩⟩
    by_cases z : rl k i = gen
    · rw [if_pos z] at hq
      refine br_t (by rw [z]) (nm_r (ps_iI_inc _) (br_f ?_ (nm_r (nI_1 i) hq)))
      rw [ps_gx hg]
      exact fun q => absurd ((nI_eq (by omega) (by omega)).mp q) (by omega)
    · rw [if_neg z] at hq
      refine br_f (fun q => z ((nI_eq (by omega) (by omega)).mp q)) ?_
      by_cases z2 : rl k i = gen + 1
      · rw [if_pos z2] at hq
        exact br_t (by rw [ps_gx hg, z2]) (nm_r (ps_iI_dec _) (nm_r (nI_1 i) hq))
      · rw [if_neg z2] at hq
        refine br_f ?_ (nm_r (nI_1 i) hq)
        rw [ps_gx hg]
        exact fun q => z2 ((nI_eq (by omega) (by omega)).mp q)
theorem xx_sur {post : Int32 → Prop} {k gen : Nat} (hg : gen = 0 ∨ gen = 2) (hc : c ≤ 4) (hr : ps_Ru c ln rl ra le) (hk : k < c) (K : post (ps_iI (ps_F gen ln rl k))) : wpX_surplus post (nI L, nI c, tc, w, ra, le, im, tk, nn, mp, fs, ss) (nI k) (nI gen) :=
  ⟨ln k + 1, xx_sur5 hg hc hr hk K (ln k) 0 (by omega)⟩
theorem xx_sums2 {post : SX → Prop} (hc : c ≤ 4) (hr : ps_Ru c ln rl ra le) (K : ∀ fs' ss', (∀ k, k < c → fs' k = ps_iI (ps_F 0 ln rl k) ∧ ss' k = ps_iI (ps_F 2 ln rl k)) → post (nI L, nI c, tc, w, ra, le, im, tk, nn, mp, fs', ss')) : ∀ d k fs' ss', k + d = c → (∀ q, q < k → fs' q = ps_iI (ps_F 0 ln rl q) ∧ ss' q = ps_iI (ps_F 2 ln rl q)) → wX_sumRelators_2 post (nI L) (nI c) tc (d + 1) (nI k) w ra le im tk nn mp fs' ss' := by
  intro d
  induction d with
  | zero =>
    intro k fs' ss' hk h
    obtain rfl : k = c := by omega
    exact br_t (nI_le (by omega) (by omega)) (K fs' ss' h)
  | succ d ih =>
    intro k fs' ss' hk h
    have v4 : vp_in (nI k) 4 := vp_in_nI (by omega) (by decide)
    refine br_f (nI_ge (by omega) (by omega)) (xx_sur (gen := 0) (Or.inl rfl) hc hr (by omega) ⟨v4, nm_r (e' := upd fs' k (ps_iI (ps_F 0 ln rl k))) (ps_wr rfl (by omega) rfl) (xx_sur (gen := 2) (Or.inr rfl) hc hr (by omega) ⟨v4, nm_r (e' := upd ss' k (ps_iI (ps_F 2 ln rl k))) (ps_wr rfl (by omega) rfl) (nm_r (nI_1 k) (ih (k + 1) _ _ (by omega) (fun q hq => ?_)))⟩)⟩)
    by_cases e : q = k
    · subst e
      exact ⟨pk_us, pk_us⟩
    · rw [pk_un e, pk_un e]
      exact h q (by omega)
theorem xx_sad3 {post : Int32 → Prop} {m x y : Nat} (h0 : 0 < m) (hm : m ≤ 1000) (hx : x < m) (hy : y < m) (hc : c ≤ 4) (hr : ps_Ru c ln rl ra le) (hs : ∀ k, k < c → fs k = ps_iI (ps_F 0 ln rl k) ∧ ss k = ps_iI (ps_F 2 ln rl k)) (K : post (ps_b (ps_cp c m (ps_F 0 ln rl) (ps_F 2 ln rl) x y))) : ∀ d k, k + d = c → (∀ q, q < k → (m : Int) ∣ (x : Int) * ps_F 0 ln rl q + (y : Int) * ps_F 2 ln rl q) → wX_sumsAreDivided_3 post (nI m) (nI x) (nI y) (nI L) (nI c) tc w ra le im tk nn mp fs ss (d + 1) (nI k) := by
  intro d
  induction d with
  | zero =>
    intro k hk h
    obtain rfl : k = c := by omega
    have e : ps_cp k m (ps_F 0 ln rl) (ps_F 2 ln rl) x y = true := decide_eq_true h
    rw [e] at K
    exact br_t (nI_le (by omega) (by omega)) K
  | succ d ih =>
    intro k hk h
    have v4 : vp_in (nI k) 4 := vp_in_nI (by omega) (by decide)
    have hsk := hs k (by omega)
    have e1 : fs (nI k).toNatClampNeg = ps_iI (ps_F 0 ln rl k) := ps_rd rfl (by omega) hsk.1
    have e2 : ss (nI k).toNatClampNeg = ps_iI (ps_F 2 ln rl k) := ps_rd rfl (by omega) hsk.2
    have b := ps_xy_b hm hx hy (ps_F_b (gen := 0) hr (show k < c by omega)) (ps_F_b (gen := 2) hr (show k < c by omega))
    have ez := ps_dv hm b.1 b.2
    rw [← ps_xFyS] at ez
    refine br_f (nI_ge (by omega) (by omega)) ⟨v4, ⟨v4, ⟨nI_ne0 h0 (by omega), ?_⟩⟩⟩
    rw [e1, e2]
    by_cases z : (m : Int) ∣ (x : Int) * ps_F 0 ln rl k + (y : Int) * ps_F 2 ln rl k
    · exact br_t (ez.mpr z) (nm_r (nI_1 k) (ih (k + 1) (by omega) (lt_s h z)))
    · have e : ps_cp c m (ps_F 0 ln rl) (ps_F 2 ln rl) x y = false := decide_eq_false (fun hh => z (hh k (by omega)))
      rw [e] at K
      exact br_f (fun q => z (ez.mp q)) K
theorem xx_cy30 {post : Int32 → SX → Prop} {J : Int32 → Int32 → Prop} {m x : Nat} (h0 : 0 < m) (hm : m ≤ 1000) (hx : x < m) (hc : c ≤ 4) (hr : ps_Ru c ln rl ra le) (hs : ∀ k, k < c → fs k = ps_iI (ps_F 0 ln rl k) ∧ ss k = ps_iI (ps_F 2 ln rl k)) (KJ : J (nI (ps_cc (ps_cp c m (ps_F 0 ln rl) (ps_F 2 ln rl)) m (x + 1))) (nI (x + 1))) : ∀ d y, y + d = m → wX_cyclic_30 post J (nI m) (nI x) (nI L) (nI c) tc w ra le im tk nn mp fs ss (d + 1) (nI (ps_cc (ps_cp c m (ps_F 0 ln rl) (ps_F 2 ln rl)) m x + ps_cn (ps_cp c m (ps_F 0 ln rl) (ps_F 2 ln rl) x) y)) (nI y) := by
  intro d
  induction d with
  | zero =>
    intro y hy
    obtain rfl : y = m := by omega
    exact br_t (nI_le (by omega) (by omega)) (nm_r (nI_1 x) KJ)
  | succ d ih =>
    intro y hy
    have hq := ih (y + 1) (by omega)
    rw [ps_cn] at hq
    refine br_f (nI_ge (by omega) (by omega)) ⟨c + 1, xx_sad3 h0 hm hx (by omega) hc hr hs ?_ c 0 (by omega) (fun q hq => by omega)⟩
    cases e : ps_cp c m (ps_F 0 ln rl) (ps_F 2 ln rl) x y with
    | false =>
      rw [e] at hq
      exact br_t rfl (nm_r (nI_1 y) hq)
    | true =>
      rw [e] at hq
      exact br_f (by decide) (nm_r (nI_1 _) (nm_r (nI_1 y) hq))
theorem xx_cy22 {post : Int32 → SX → Prop} {m : Nat} (h0 : 0 < m) (hm : m ≤ 1000) (hc : c ≤ 4) (hr : ps_Ru c ln rl ra le) (hs : ∀ k, k < c → fs k = ps_iI (ps_F 0 ln rl k) ∧ ss k = ps_iI (ps_F 2 ln rl k)) (K : post (nI (ps_cc (ps_cp c m (ps_F 0 ln rl) (ps_F 2 ln rl)) m m)) (nI L, nI c, tc, w, ra, le, im, tk, nn, mp, fs, ss)) : ∀ d x, x + d = m → wX_cyclic_22 post (nI m) (nI L) (nI c) tc w ra le im tk nn mp fs ss (d + 1) (nI (ps_cc (ps_cp c m (ps_F 0 ln rl) (ps_F 2 ln rl)) m x)) (nI x) := by
  intro d
  induction d with
  | zero =>
    intro x hx
    obtain rfl : x = m := by omega
    exact br_t (nI_le (by omega) (by omega)) K
  | succ d ih =>
    intro x hx
    exact br_f (nI_ge (by omega) (by omega)) ⟨m + 1, xx_cy30 h0 hm (by omega) hc hr hs (ih (x + 1) (by omega)) m 0 (by omega)⟩
theorem xx_cyclic_b {post : Int32 → SX → Prop} {v : Int32} (h : v < 1 ∨ 1000 < v) (k : post (-1) (nI L, nI c, tc, w, ra, le, im, tk, nn, mp, fs, ss)) : wpX_cyclic post (nI L, nI c, tc, w, ra, le, im, tk, nn, mp, fs, ss) v := by
  by_cases z : v < 1
  · exact br_t z k
  · rcases h with h | h
    · exact absurd h z
    · exact br_f z (br_f (Int32.not_le.mpr h) k)
theorem xx_cyclic_o {post : Int32 → SX → Prop} {m : Nat} (h0 : 0 < m) (hm : m ≤ 1000) (hL : L ≤ 8) (hc : c ≤ 4) (hw : ps_Wo wn w) (hr : ps_Ru c ln rl ra le) (K : ∀ u', xx_OK L c wn ln rl u' → post (nI (ps_cc (ps_cp c m (ps_F 0 ln rl) (ps_F 2 ln rl)) m m)) u') : wpX_cyclic post (nI L, nI c, tc, w, ra, le, im, tk, nn, mp, fs, ss) (nI m) :=
  br_f (nI_nlt (b := 1) (by omega) (by omega)) (br_t (nI_le (b := 1000) hm (by decide)) ⟨c + 1, xx_sums2 hc hr (fun fs' ss' hs => ⟨m + 1, xx_cy22 h0 hm hc hr hs (K _ (xx_mk hL hc hw hr)) m 0 (by omega)⟩) c 0 fs ss (by omega) (fun q hq => by omega)⟩)
end
end
section
/-! the reference's small methods -/
theorem ps_nar0 : vp_nar .boolean 0 = 0 := by decide
theorem ps_nar1 : vp_nar .boolean 1 = 1 := by decide
section
variable {L c : Nat} {mn : Int32} {w le ra fi se pm im ot od pl kn an tb : Nat → Int32} {ks : Nat → Int64}
theorem yy_letter_b {post : Int32 → SY → Prop} {v : Int32} (h : v < 0 ∨ nI 4 ≤ v) (k : post (-1) (nI L, nI c, mn, w, le, ra, fi, se, pm, im, ot, od, pl, kn, an, tb, ks)) : wpY_letter post (nI L, nI c, mn, w, le, ra, fi, se, pm, im, ot, od, pl, kn, an, tb, ks) v := by
  by_cases z : v < 0
  · exact br_t z k
  · rcases h with h | h
    · exact absurd h z
    · exact br_f z (br_f (fun q => absurd (Int32.le_trans h q) (by decide)) k)
theorem yy_letter_f {post : Int32 → SY → Prop} {l : Nat} (hl : l < 4) (hL : L = 8) (k : post (-2) (nI L, nI c, mn, w, le, ra, fi, se, pm, im, ot, od, pl, kn, an, tb, ks)) : wpY_letter post (nI L, nI c, mn, w, le, ra, fi, se, pm, im, ot, od, pl, kn, an, tb, ks) (nI l) :=
  br_f (nI_pos (by omega)) (br_t (nI_le (b := 3) (by omega) (by decide)) (br_t (by rw [hL]; rfl) k))
theorem yy_letter_o {post : Int32 → SY → Prop} {l : Nat} (hl : l < 4) (hL : L < 8) (k : post (nI (L + 1)) (nI (L + 1), nI c, mn, upd w L (nI l), le, ra, fi, se, pm, im, ot, od, pl, kn, an, tb, ks)) : wpY_letter post (nI L, nI c, mn, w, le, ra, fi, se, pm, im, ot, od, pl, kn, an, tb, ks) (nI l) :=
  br_f (nI_pos (by omega)) (br_t (nI_le (b := 3) (by omega) (by decide)) (br_f (fun q => absurd ((nI_eq (b := 8) (by omega) (by decide)).mp q) (by omega)) ⟨vp_in_nI hL (by decide), nm_r (ps_wr rfl (by omega) rfl) (nm_r (nI_1 L) k)⟩))
theorem yy_clear {post : Int32 → SY → Prop} (k : post (nI L) (nI 0, nI c, mn, w, le, ra, fi, se, pm, im, ot, od, pl, kn, an, tb, ks)) : wpY_clear post (nI L, nI c, mn, w, le, ra, fi, se, pm, im, ot, od, pl, kn, an, tb, ks) := k
theorem yy_inv2 {post : Int32 → SY → Prop} {wn : Nat → Nat} (hL : L ≤ 8) (K : ∀ w', ps_Wo (ps_in L wn ((L + 1) / 2)) w' → post (nI L) (nI L, nI c, mn, w', le, ra, fi, se, pm, im, ot, od, pl, kn, an, tb, ks)) : ∀ d i w', i + d = (L + 1) / 2 → ps_Wo (ps_in L wn i) w' → wY_invert_2 post (nI L) (nI c) mn (d + 1) (nI i) w' le ra fi se pm im ot od pl kn an tb ks := by
  have e2 : (nI L + 1) / 2 = nI ((L + 1) / 2) := by
    rw [nI_1]
    exact pk_div (a := L + 1) (d := 2) (by omega) (by decide) (by decide)
  intro d
  induction d with
  | zero =>
    intro i w' hi h
    obtain rfl : i = (L + 1) / 2 := by omega
    exact ⟨by decide, br_t (by rw [e2]; exact nI_le (by omega) (by omega)) (K w' h)⟩
  | succ d ih =>
    intro i w' hi h
    have ej : (nI L - 1) - nI i = nI (L - 1 - i) := by rw [ps_m1 (by omega), pk_sub (by omega)]
    have ci : (nI i).toNatClampNeg = i := nI_clamp (by omega)
    have cj : ((nI L - 1) - nI i).toNatClampNeg = L - 1 - i := by rw [ej]; exact nI_clamp (by omega)
    have vi : vp_in (nI i) 8 := vp_in_nI (by omega) (by decide)
    have vj : vp_in ((nI L - 1) - nI i) 8 := by rw [ej]; exact vp_in_nI (by omega) (by decide)
    have hq := ih (i + 1) _ (by omega) (ps_Wo_up (ps_Wo_up h i _ (ps_x1 _ (h (L - 1 - i)).1)) (L - 1 - i) _ (ps_x1 _ (h i).1))
    refine ⟨by decide, br_f (by rw [e2]; exact nI_ge (by omega) (by omega)) ⟨vi, nm_r (e' := nI (ps_in L wn i i ^^^ 1)) ?_ ⟨vj, ⟨vi, nm_r (e' := upd w' i (nI (ps_in L wn i (L - 1 - i) ^^^ 1))) ?_ ⟨vj, nm_r (e' := upd (upd w' i (nI (ps_in L wn i (L - 1 - i) ^^^ 1))) (L - 1 - i) (nI (ps_in L wn i i ^^^ 1))) ?_ (nm_r (nI_1 i) hq)⟩⟩⟩⟩⟩
    · rw [ci, (h i).2, ps_x1I]
    · rw [ci, cj, (h _).2, ps_x1I]
    · rw [cj]
theorem yy_invert {post : Int32 → SY → Prop} {wn : Nat → Nat} (hL : L ≤ 8) (hw : ps_Wo wn w) (K : ∀ w', ps_Wo (ps_in L wn ((L + 1) / 2)) w' → post (nI L) (nI L, nI c, mn, w', le, ra, fi, se, pm, im, ot, od, pl, kn, an, tb, ks)) : wpY_invert post (nI L, nI c, mn, w, le, ra, fi, se, pm, im, ot, od, pl, kn, an, tb, ks) :=
  ⟨(L + 1) / 2 + 1, yy_inv2 hL K ((L + 1) / 2) 0 w (by omega) hw⟩
theorem yy_for2 {post : SY → Prop} (K : ∀ kn', (∀ n, n < 6 → kn' n = 0) → post (nI L, nI c, mn, w, le, ra, fi, se, pm, im, ot, od, pl, kn', an, tb, ks)) : ∀ d i kn', i + d = 6 → (∀ n, n < i → kn' n = 0) → wY_forget_2 post (nI L) (nI c) mn (d + 1) (nI i) w le ra fi se pm im ot od pl kn' an tb ks := by
  intro d
  induction d with
  | zero =>
    intro i kn' hi h
    obtain rfl : i = 6 := by omega
    exact br_t (nI_le (a := 6) (b := 6) (by decide) (by decide)) (K kn' h)
  | succ d ih =>
    intro i kn' hi h
    refine br_f (nI_ge (b := 6) (by omega) (by decide)) ⟨vp_in_nI (by omega) (by decide), nm_r (e' := upd kn' i 0) (ps_wr rfl (by omega) ps_nar0) (nm_r (nI_1 i) (ih (i + 1) _ (by omega) (fun n hn => ?_)))⟩
    by_cases e : n = i
    · subst e
      exact pk_us
    · rw [pk_un e]
      exact h n (by omega)
theorem yy_forget {post : SY → Prop} (K : ∀ kn', (∀ n, n < 6 → kn' n = 0) → post (nI L, nI c, mn, w, le, ra, fi, se, pm, im, ot, od, pl, kn', an, tb, ks)) : wpY_forget post (nI L, nI c, mn, w, le, ra, fi, se, pm, im, ot, od, pl, kn, an, tb, ks) := ⟨7, yy_for2 K 6 0 kn (by omega) (fun n hn => by omega)⟩
theorem yy_rel26 {post : Int32 → SY → Prop} {wn : Nat → Nat} (hL : L ≤ 8) (hc : c < 4) (hw : ps_Wo wn w) (K : ∀ ra' kn', (∀ i, i < L → ra' (8 * c + i) = nI (wn i)) → (∀ j, j < 8 * c → ra' j = ra j) → (∀ n, n < 6 → kn' n = 0) → post (nI (c + 1)) (nI L, nI (c + 1), mn, w, le, ra', fi, se, pm, im, ot, od, pl, kn', an, tb, ks)) : ∀ d i ra', i + d = L → (∀ j, j < i → ra' (8 * c + j) = nI (wn j)) → (∀ j, j < 8 * c → ra' j = ra j) → wY_relate_26 post (nI L) (nI c) mn (d + 1) (nI i) w le ra' fi se pm im ot od pl kn an tb ks := by
  intro d
  induction d with
  | zero =>
    intro i ra' hi h1 h2
    obtain rfl : i = L := by omega
    exact br_t (nI_le (by omega) (by omega)) (nm_r (nI_1 c) (yy_forget (fun kn' hk => K ra' kn' h1 h2 hk)))
  | succ d ih =>
    intro i ra' hi h1 h2
    refine br_f (nI_ge (by omega) (by omega)) ⟨vp_in_nI (by omega) (by decide), ⟨pk_in (8 * c + i) 32 (by omega) (ps_8x c i), nm_r (e' := upd ra' (8 * c + i) (nI (wn i))) (ps_wr (ps_8x c i) (by omega) (ps_rd rfl (by omega) (hw i).2)) (nm_r (nI_1 i) (ih (i + 1) _ (by omega) ?_ ?_))⟩⟩
    · intro j hj
      by_cases e : j = i
      · subst e
        exact pk_us
      · rw [pk_un (by omega)]
        exact h1 j (by omega)
    · intro j hj
      rw [pk_un (by omega)]
      exact h2 j hj
theorem yy_relate_f {post : Int32 → SY → Prop} (hc : c = 4) (k : post (-2) (nI L, nI c, mn, w, le, ra, fi, se, pm, im, ot, od, pl, kn, an, tb, ks)) : wpY_relate post (nI L, nI c, mn, w, le, ra, fi, se, pm, im, ot, od, pl, kn, an, tb, ks) := br_t (by rw [hc]; rfl) k
theorem yy_relate_o {post : Int32 → SY → Prop} {wn ln : Nat → Nat} {rl : Nat → Nat → Nat} (hL : L ≤ 8) (hc : c < 4) (hw : ps_Wo wn w) (hr : ps_Ru c ln rl ra le) (K : ∀ ra' le' kn', ps_Ru (c + 1) (ps_up ln c L) (fun k => if k = c then wn else rl k) ra' le' → (∀ n, n < 6 → kn' n = 0) → post (nI (c + 1)) (nI L, nI (c + 1), mn, w, le', ra', fi, se, pm, im, ot, od, pl, kn', an, tb, ks)) : wpY_relate post (nI L, nI c, mn, w, le, ra, fi, se, pm, im, ot, od, pl, kn, an, tb, ks) :=
  br_f (fun q => absurd ((nI_eq (b := 4) (by omega) (by decide)).mp q) (by omega)) ⟨vp_in_nI hc (by decide), nm_r (e' := upd le c (nI L)) (ps_wr rfl (by omega) rfl) ⟨L + 1, yy_rel26 hL hc hw (fun ra' kn' h1 h2 h3 => K ra' _ kn' (ps_Ru_new hr hL (fun i => (hw i).1) h1 h2) h3) L 0 ra (by omega) (fun j hj => by omega) (fun _ _ => rfl)⟩⟩
theorem yy_drop51 {post : Int32 → SY → Prop} {J : Int32 → (Nat → Int32) → (Nat → Int32) → (Nat → Int32) → (Nat → Int32) → (Nat → Int32) → (Nat → Int32) → (Nat → Int32) → (Nat → Int32) → (Nat → Int32) → (Nat → Int32) → (Nat → Int32) → (Nat → Int32) → (Nat → Int32) → (Nat → Int64) → Prop} {t : Nat} (ht : t + 1 < 4) (K : ∀ ra', (∀ i, i < 8 → ra' (8 * t + i) = ra (8 * (t + 1) + i)) → (∀ j, ¬ (8 * t ≤ j ∧ j < 8 * t + 8) → ra' j = ra j) → J (nI (t + 1)) w le ra' fi se pm im ot od pl kn an tb ks) : ∀ d i ra', i + d = 8 → (∀ j, j < i → ra' (8 * t + j) = ra (8 * (t + 1) + j)) → (∀ j, ¬ (8 * t ≤ j ∧ j < 8 * t + 8) → ra' j = ra j) → wY_drop_51 post J (nI t) (nI L) (nI c) mn (d + 1) (nI i) w le ra' fi se pm im ot od pl kn an tb ks := by
  intro d
  induction d with
  | zero =>
    intro i ra' hi h1 h2
    obtain rfl : i = 8 := by omega
    exact br_t (nI_le (a := 8) (b := 8) (by decide) (by decide)) (nm_r (nI_1 t) (K ra' h1 h2))
  | succ d ih =>
    intro i ra' hi h1 h2
    have e8 : ((8 * nI t) + 8) + nI i = nI (8 * (t + 1) + i) := by
      rw [ps_8m, show (8 : Int32) = nI 8 from rfl, nI_add, nI_add]
      congr 1
    refine br_f (nI_ge (b := 8) (by omega) (by decide)) ⟨pk_in (8 * (t + 1) + i) 32 (by omega) e8, ⟨pk_in (8 * t + i) 32 (by omega) (ps_8x t i), nm_r (e' := upd ra' (8 * t + i) (ra (8 * (t + 1) + i))) (ps_wr (ps_8x t i) (by omega) (ps_rd e8 (by omega) (h2 _ (by omega)))) (nm_r (nI_1 i) (ih (i + 1) _ (by omega) ?_ ?_))⟩⟩
    · intro j hj
      by_cases e : j = i
      · subst e
        exact pk_us
      · rw [pk_un (by omega)]
        exact h1 j (by omega)
    · intro j hj
      rw [pk_un (by omega)]
      exact h2 j hj
theorem yy_drop27 {post : Int32 → SY → Prop} {k : Nat} {ln : Nat → Nat} {rl : Nat → Nat → Nat} (hc : c < 4) (K : ∀ ra' le' kn', ps_Ru c (ps_dr k c ln) (ps_dr k c rl) ra' le' → (∀ n, n < 6 → kn' n = 0) → post (nI c) (nI L, nI c, mn, w, le', ra', fi, se, pm, im, ot, od, pl, kn', an, tb, ks)) : ∀ d t (ra le : Nat → Int32), k ≤ t → t + d = c → ps_Ru (c + 1) (ps_dr k t ln) (ps_dr k t rl) ra le → wY_drop_27 post (nI L) (nI c) mn (d + 1) (nI t) w le ra fi se pm im ot od pl kn an tb ks := by
  intro d
  induction d with
  | zero =>
    intro t ra le hk ht h
    obtain rfl : t = c := by omega
    exact br_t (nI_le (by omega) (by omega)) (yy_forget (fun kn' h6 => K ra le kn' (ps_Ru_sub h (by omega)) h6))
  | succ d ih =>
    intro t ra le hk ht h
    have g := h (t + 1) (by omega)
    have el : le (nI t + 1).toNatClampNeg = le (t + 1) := ps_rd (nI_1 t) (by omega) rfl
    refine br_f (nI_ge (by omega) (by omega)) ⟨pk_in (t + 1) 4 (by omega) (nI_1 t), ⟨vp_in_nI (by omega) (by decide), nm_r (e' := upd le t (le (t + 1))) (ps_wr rfl (by omega) el) ⟨9, yy_drop51 (by omega) (fun ra' h1 h2 => ih (t + 1) _ _ (by omega) (by omega) (ps_Ru_mv hk (by omega) h ?_ ?_ ?_ ?_)) 8 0 ra (by omega) (fun j hj => by omega) (fun _ _ => rfl)⟩⟩⟩
    · exact pk_us
    · intro m hm
      exact pk_un hm
    · intro i hi
      have g1 := g.1
      rw [ps_dr_n] at g1
      exact h1 i (by omega)
    · intro m hm i hi
      exact h2 _ (by omega)
theorem yy_drop_b {post : Int32 → SY → Prop} {v : Int32} (h : v < 0 ∨ nI c ≤ v) (k : post (-4) (nI L, nI c, mn, w, le, ra, fi, se, pm, im, ot, od, pl, kn, an, tb, ks)) : wpY_drop post (nI L, nI c, mn, w, le, ra, fi, se, pm, im, ot, od, pl, kn, an, tb, ks) v := by
  by_cases z : v < 0
  · exact br_t z k
  · rcases h with h | h
    · exact absurd h z
    · exact br_f z (br_f (Int32.not_lt.mpr h) k)
theorem yy_drop_o {post : Int32 → SY → Prop} {k : Nat} {ln : Nat → Nat} {rl : Nat → Nat → Nat} (hk : k < c) (hc : c ≤ 4) (hr : ps_Ru c ln rl ra le) (K : ∀ ra' le' kn', ps_Ru (c - 1) (ps_dr k (c - 1) ln) (ps_dr k (c - 1) rl) ra' le' → (∀ n, n < 6 → kn' n = 0) → post (nI (c - 1)) (nI L, nI (c - 1), mn, w, le', ra', fi, se, pm, im, ot, od, pl, kn', an, tb, ks)) : wpY_drop post (nI L, nI c, mn, w, le, ra, fi, se, pm, im, ot, od, pl, kn, an, tb, ks) (nI k) :=
  br_f (nI_pos (by omega)) (br_t (nI_lt hk (by omega)) (nm_r (ps_m1 (by omega)) ⟨c - 1 - k + 1, yy_drop27 (c := c - 1) (by omega) K (c - 1 - k) k ra le (Nat.le_refl _) (by omega) (by rw [ps_dr_0, ps_dr_0, Nat.sub_add_cancel (by omega)]; exact hr)⟩))
theorem yy_word4 {post : Int32 → Prop} {wn : Nat → Nat} (hL : L ≤ 8) (hw : ps_Wo wn w) (K : post (ps_wv wn L)) : ∀ d i, i + d = L → wY_word_4 post (nI L) (nI c) mn w le ra fi se pm im ot od pl kn an tb ks (d + 1) (ps_wv wn i) (nI i) := by
  intro d
  induction d with
  | zero =>
    intro i hi
    obtain rfl : i = L := by omega
    exact br_t (nI_le (by omega) (by omega)) K
  | succ d ih =>
    intro i hi
    exact br_f (nI_ge (by omega) (by omega)) ⟨vp_in_nI (by omega) (by decide), nm_r (e' := ps_wv wn (i + 1)) (by rw [ps_rd rfl (by omega) (hw i).2, ps_wv]) (nm_r (nI_1 i) (ih (i + 1) (by omega)))⟩
theorem yy_word {post : Int32 → Prop} {wn : Nat → Nat} (hL : L ≤ 8) (hw : ps_Wo wn w) (K : post (ps_wv wn L)) : wpY_word post (nI L, nI c, mn, w, le, ra, fi, se, pm, im, ot, od, pl, kn, an, tb, ks) := ⟨L + 1, yy_word4 hL hw K L 0 (by omega)⟩
theorem yy_bad_b {post : Int32 → Prop} {v : Int32} (h : v < 1 ∨ 5 < v) (k : post 1) : wpY_bad post (nI L, nI c, mn, w, le, ra, fi, se, pm, im, ot, od, pl, kn, an, tb, ks) v := by
  by_cases z : v < 1
  · exact br_t z k
  · rcases h with h | h
    · exact absurd h z
    · exact br_f z (br_f (Int32.not_le.mpr h) k)
theorem yy_bad_o {post : Int32 → Prop} {n : Nat} (h0 : 0 < n) (hn : n ≤ 5) (k : post 0) : wpY_bad post (nI L, nI c, mn, w, le, ra, fi, se, pm, im, ot, od, pl, kn, an, tb, ks) (nI n) :=
  br_f (nI_nlt (b := 1) (by omega) (by omega)) (br_t (nI_le (b := 5) hn (by decide)) k)
end
end
section
/-! the reference's search, up to the key -/
def ps_cYt (n t : Nat) : List (List Nat) := ((List.range t).filter (ps_fu n)).map (ps_dl n)
theorem ps_cYt_t {n t : Nat} (h : ps_fu n t = true) : ps_cYt n (t + 1) = ps_cYt n t ++ [ps_dl n t] := by
  rw [ps_cYt, ps_cYt, List.range_succ, List.filter_append, List.map_append, List.filter_cons, if_pos h]
  rfl
theorem ps_cYt_f {n t : Nat} (h : ps_fu n t = false) : ps_cYt n (t + 1) = ps_cYt n t := by
  rw [ps_cYt, ps_cYt, List.range_succ, List.filter_append, List.map_append, List.filter_cons, h]
  exact List.append_nil _
theorem ps_cYt_len {n t : Nat} (h0 : 0 < n) (hn : n ≤ 5) (ht : t ≤ n ^ n) : (ps_cYt n t).length ≤ 120 := by
  have h : (ps_cYt n t).length ≤ (ps_cY n).length := by
    rw [ps_cYt, ps_cY, List.length_map, List.length_map]
    exact ((List.range_sublist.mpr ht).filter _).length_le
  have e := ev_cYl h0 hn
  have f := (ev_fa hn).2
  omega
def ps_PA (a : Nat → Int32) (n : Nat) (Lc : List (List Nat)) : Prop := ∀ k, k < Lc.length → ∀ i, i < n → a (5 * k + i) = nI (ps_fn (Lc.getD k []) i)
theorem ps_nn {n : Nat} (hn : n ≤ 5) : n ^ n ≤ 3125 := by
  have : ∀ n, n ≤ 5 → n ^ n ≤ 3125 := by decide
  exact this n hn
theorem ps_ni {n i : Nat} (h0 : 0 < n) (hn : n ≤ 5) (hi : i ≤ n) : n ^ i ≤ 3125 := Nat.le_trans (Nat.pow_le_pow_right h0 hi) (ps_nn hn)
theorem ps_shn {n : Nat} (hn : n < 32) : (1 : Int32) <<< (nI n &&& 31) = nI (2 ^ n) := by
  have h := pk_shlN (n := 1) (nI n &&& 31) n (s_l n hn) (by rw [Nat.one_mul]; exact Nat.pow_lt_pow_right (by decide) hn)
  rw [Nat.one_mul] at h
  exact h
def ps_Rw (a : Nat → Int32) (n o : Nat) (f : List Nat) : Prop := ∀ p, p < n → a (5 * o + p) = nI (ps_fn f p) ∧ a (5 * (o + 1) + p) = nI (ps_iv (ps_fn f) n p)
theorem ps_Rw_YI {a : Nat → Int32} {n : Nat} {f h : List Nat} (hf : ps_Rw a n 0 f) (hh : ps_Rw a n 2 h) : ps_YI a n (ps_ac n f h) := by
  intro l hl p hp
  match l, hl with
  | 0, _ => exact (hf p hp).1
  | 1, _ => exact (hf p hp).2
  | 2, _ => exact (hh p hp).1
  | 3, _ => exact (hh p hp).2
theorem ps_5k (m : Nat) {v : Nat} (hv : v < 2 ^ 31) : 5 * lN m + (nI v).toInt64 = lN (5 * m + v) := by
  rw [show (5 : Int64) = lN 5 from rfl, lN_mul, nI_l hv, lN_add]
section
variable {L c : Nat} {mn : Int32} {w le ra fi se pm im ot od pl kn an tb : Nat → Int32} {ks : Nat → Int64}
variable {ln : Nat → Nat} {rl : Nat → Nat → Nat}
theorem yy_lp40 {post : SY → Prop} {J : Int32 → Int32 → (Nat → Int32) → (Nat → Int32) → (Nat → Int32) → (Nat → Int32) → (Nat → Int32) → (Nat → Int32) → (Nat → Int32) → (Nat → Int32) → (Nat → Int32) → (Nat → Int32) → (Nat → Int32) → (Nat → Int32) → (Nat → Int32) → (Nat → Int64) → Prop} {n code : Nat} {x2 : Int32} (h0 : 0 < n) (hn : n ≤ 5) (hc : code < n ^ n) (KJ : ∀ pm', ps_PA pm' n (ps_cYt n (code + 1)) → J (nI (code + 1)) (nI (ps_cYt n (code + 1)).length) w le ra fi se pm' im ot od pl kn an tb ks) : ∀ d i pm', i + d = n → ps_PA pm' n (ps_cYt n code) → (∀ j, j < i → pm' (5 * (ps_cYt n code).length + j) = nI (code / n ^ j % n)) → wY_listPermutations_40 post J (nI n) x2 (nI code) (nI L) (nI c) (nI (ps_cYt n code).length) (d + 1) (nI (code / n ^ i)) (nI (ps_mk n code i)) (nI i) w le ra fi se pm' im ot od pl kn an tb ks := by
  have hm := ps_cYt_len h0 hn (show code ≤ n ^ n by omega)
  have hcb := ps_nn hn
  intro d
  induction d with
  | zero =>
    intro i pm' hi hP hR
    obtain rfl : i = n := by omega
    have e : ((1 : Int32) <<< (nI i &&& 31)) - 1 = nI (2 ^ i - 1) := by rw [ps_shn (by omega)]; exact ps_m1 (Nat.two_pow_pos i)
    have hk := ps_mk_lt h0 hn code i
    have h2 : 2 ^ i ≤ 2 ^ 5 := Nat.pow_le_pow_right (by decide) hn
    refine br_t (nI_le (by omega) (by omega)) ?_
    rw [e]
    cases hf : ps_fu i code with
    | true =>
      have he : ps_mk i code i = 2 ^ i - 1 := of_decide_eq_true hf
      have kj := KJ pm'
      rw [ps_cYt_t hf, List.length_append, List.length_singleton] at kj
      refine br_t (by rw [he]) (nm_r (nI_1 _) (nm_r (nI_1 code) (kj ?_)))
      intro k hk j hj
      by_cases z : k < (ps_cYt i code).length
      · rw [ps_gA z]
        exact hP k z j hj
      · obtain rfl : k = (ps_cYt i code).length := by simp at hk; omega
        have g := ps_gB (A := ps_cYt i code) (B := [ps_dl i code]) (i := 0) (d := [])
        rw [Nat.add_zero] at g
        rw [g, hR j hj]
        exact congrArg nI (ps_gR (f := fun x => code / i ^ x % i) (d := 0) hj).symm
    | false =>
      have he : ¬ ps_mk i code i = 2 ^ i - 1 := of_decide_eq_false hf
      have kj := KJ pm'
      rw [ps_cYt_f hf] at kj
      exact br_f (fun q => he ((nI_eq (by omega) (by omega)).mp q)) (nm_r (nI_1 code) (kj hP))
  | succ d ih =>
    intro i pm' hi hP hR
    have hq : code / n ^ i ≤ code := Nat.div_le_self _ _
    have hd : code / n ^ i % n < n := Nat.mod_lt _ h0
    have nz : ¬ nI n = 0 := nI_ne0 h0 (by omega)
    have er : nI (code / n ^ i) - nI (code / n ^ i) / nI n * nI n = nI (code / n ^ i % n) := pk_rem (by omega) h0 (by omega)
    have ix := ps_5x (ps_cYt n code).length i
    refine br_f (nI_ge (by omega) (by omega)) ⟨nz, ⟨pk_in (5 * (ps_cYt n code).length + i) 605 (by omega) ix, nm_r (e' := upd pm' (5 * (ps_cYt n code).length + i) (nI (code / n ^ i % n))) (ps_wr ix (by omega) er) ⟨nz, nm_r (e' := nI (ps_mk n code (i + 1))) ?_ ⟨nz, nm_r (e' := nI (code / n ^ (i + 1))) ?_ (nm_r (nI_1 i) (ih (i + 1) _ (by omega) ?_ ?_))⟩⟩⟩⟩
    · rw [er, ps_shn (by omega), ps_or, ps_mk]
    · rw [pk_div (by omega) h0 (by omega), Nat.div_div_eq_div_mul, Nat.pow_succ]
    · intro k hk j hj
      rw [pk_un (by omega)]
      exact hP k hk j hj
    · intro j hj
      by_cases e : j = i
      · subst e
        exact pk_us
      · rw [pk_un (by omega)]
        exact hR j (by omega)
theorem yy_lp26 {post : SY → Prop} {n : Nat} (h0 : 0 < n) (hn : n ≤ 5) (K : ∀ pm', ps_PA pm' n (ps_cY n) → post (nI L, nI c, nI (ps_cY n).length, w, le, ra, fi, se, pm', im, ot, od, pl, kn, an, tb, ks)) : ∀ d code pm', code + d = n ^ n → ps_PA pm' n (ps_cYt n code) → wY_listPermutations_26 post (nI n) (nI (n ^ n)) (nI L) (nI c) (d + 1) (nI code) (nI (ps_cYt n code).length) w le ra fi se pm' im ot od pl kn an tb ks := by
  have hcb := ps_nn hn
  intro d
  induction d with
  | zero =>
    intro code pm' hc hP
    obtain rfl : code = n ^ n := by omega
    exact br_t (nI_le (by omega) (by omega)) (K pm' hP)
  | succ d ih =>
    intro code pm' hc hP
    have h := yy_lp40 (post := post) (J := wY_listPermutations_26 post (nI n) (nI (n ^ n)) (nI L) (nI c) (d + 1)) (x2 := nI (n ^ n)) (L := L) (c := c) (w := w) (le := le) (ra := ra) (fi := fi) (se := se) (im := im) (ot := ot) (od := od) (pl := pl) (kn := kn) (an := an) (tb := tb) (ks := ks) h0 hn (show code < n ^ n by omega) (fun pm' h => ih (code + 1) pm' (by omega) h) n 0 pm' (by omega) hP (fun j hj => by omega)
    rw [Nat.pow_zero, Nat.div_one] at h
    exact br_f (nI_ge (by omega) (by omega)) ⟨n + 1, h⟩
theorem yy_lp9 {post : SY → Prop} {n : Nat} (h0 : 0 < n) (hn : n ≤ 5) (K : ∀ pm', ps_PA pm' n (ps_cY n) → post (nI L, nI c, nI (ps_cY n).length, w, le, ra, fi, se, pm', im, ot, od, pl, kn, an, tb, ks)) : ∀ d i, i + d = n → wY_listPermutations_9 post (nI n) (nI L) (nI c) (nI 0) w le ra fi se pm im ot od pl kn an tb ks (d + 1) (nI (n ^ i)) (nI i) := by
  intro d
  induction d with
  | zero =>
    intro i hi
    obtain rfl : i = n := by omega
    exact br_t (nI_le (by omega) (by omega)) ⟨i ^ i + 1, yy_lp26 h0 hn K (i ^ i) 0 pm (by omega) (fun k hk => absurd hk (Nat.not_lt_zero k))⟩
  | succ d ih =>
    intro i hi
    exact br_f (nI_ge (by omega) (by omega)) (nm_r (e' := nI (n ^ (i + 1))) (pk_mul _ _) (nm_r (nI_1 i) (ih (i + 1) (by omega))))
theorem yy_lperm {post : SY → Prop} {n : Nat} (h0 : 0 < n) (hn : n ≤ 5) (K : ∀ pm', ps_PA pm' n (ps_cY n) → post (nI L, nI c, nI (ps_cY n).length, w, le, ra, fi, se, pm', im, ot, od, pl, kn, an, tb, ks)) : wpY_listPermutations post (nI L, nI c, mn, w, le, ra, fi, se, pm, im, ot, od, pl, kn, an, tb, ks) (nI n) := ⟨n + 1, yy_lp9 h0 hn K n 0 (by omega)⟩
theorem yy_take3 {post : SY → Prop} {n o a : Nat} {f : List Nat} {im0 : Nat → Int32} (hn : n ≤ 5) (ho : o = 0 ∨ o = 2) (ha : a < 120) (hP : ps_Pm n f = true) (hpm : ∀ p, p < n → pm (5 * a + p) = nI (ps_fn f p)) (K : ∀ im', (∀ p, p < n → im' (5 * o + p) = nI (ps_fn f p) ∧ im' (5 * (o + 1) + ps_fn f p) = nI p) → (∀ j, ¬ (5 * o ≤ j ∧ j < 5 * o + 10) → im' j = im0 j) → post (nI L, nI c, mn, w, le, ra, fi, se, pm, im', ot, od, pl, kn, an, tb, ks)) : ∀ d i im', i + d = n → (∀ p, p < i → im' (5 * o + p) = nI (ps_fn f p) ∧ im' (5 * (o + 1) + ps_fn f p) = nI p) → (∀ j, ¬ (5 * o ≤ j ∧ j < 5 * o + 10) → im' j = im0 j) → wY_take_3 post (nI o) (nI a) (nI n) (nI L) (nI c) mn (d + 1) (nI i) w le ra fi se pm im' ot od pl kn an tb ks := by
  have ho2 : o ≤ 2 := by omega
  intro d
  induction d with
  | zero =>
    intro i im' hi h1 h2
    obtain rfl : i = n := by omega
    exact br_t (nI_le (by omega) (by omega)) (K im' h1 h2)
  | succ d ih =>
    intro i im' hi h1 h2
    have hf := ps_Pm_iff hP i (by omega)
    have hf1 := hf.1
    have e5 : ((5 * nI o) + 5) + nI (ps_fn f i) = nI (5 * (o + 1) + ps_fn f i) := by
      rw [ps_5m, show (5 : Int32) = nI 5 from rfl, nI_add, nI_add]
      congr 1
    refine br_f (nI_ge (by omega) (by omega)) ⟨pk_in (5 * a + i) 605 (by omega) (ps_5x a i), nm_r (e' := nI (ps_fn f i)) (ps_rd (ps_5x a i) (by omega) (hpm i (by omega))) ⟨pk_in (5 * o + i) 20 (by omega) (ps_5x o i), nm_r (e' := upd im' (5 * o + i) (nI (ps_fn f i))) (ps_wr (ps_5x o i) (by omega) rfl) ⟨pk_in (5 * (o + 1) + ps_fn f i) 20 (by omega) e5, nm_r (e' := upd (upd im' (5 * o + i) (nI (ps_fn f i))) (5 * (o + 1) + ps_fn f i) (nI i)) (ps_wr e5 (by omega) rfl) (nm_r (nI_1 i) (ih (i + 1) _ (by omega) ?_ ?_))⟩⟩⟩
    · intro p hp
      have hfp := ps_Pm_iff hP p (by omega)
      have hfp1 := hfp.1
      by_cases e : p = i
      · subst e
        rw [pk_un (by omega), pk_us]
        exact ⟨rfl, pk_us⟩
      · have hne : ps_fn f p ≠ ps_fn f i := fun q => e (hfp.2.1.symm.trans ((congrArg _ q).trans hf.2.1))
        rw [pk_un (by omega), pk_un (by omega), pk_un (by omega), pk_un (by omega)]
        exact h1 p (by omega)
    · intro j hj
      rw [pk_un (by omega), pk_un (by omega)]
      exact h2 j hj
theorem yy_take {post : SY → Prop} {n o a : Nat} {f : List Nat} (hn : n ≤ 5) (ho : o = 0 ∨ o = 2) (ha : a < 120) (hP : ps_Pm n f = true) (hpm : ∀ p, p < n → pm (5 * a + p) = nI (ps_fn f p)) (K : ∀ im', ps_Rw im' n o f → (∀ j, ¬ (5 * o ≤ j ∧ j < 5 * o + 10) → im' j = im j) → post (nI L, nI c, mn, w, le, ra, fi, se, pm, im', ot, od, pl, kn, an, tb, ks)) : wpY_take post (nI L, nI c, mn, w, le, ra, fi, se, pm, im, ot, od, pl, kn, an, tb, ks) (nI o) (nI a) (nI n) := by
  refine ⟨n + 1, yy_take3 (im0 := im) hn ho ha hP hpm (fun im' h1 h2 => K im' (fun p hp => ⟨(h1 p hp).1, ?_⟩) h2) n 0 im (by omega) (fun p hp => by omega) (fun _ _ => rfl)⟩
  have h := ps_Pm_iff hP p hp
  have m := (h1 _ h.2.2.1).2
  rw [h.2.2.2] at m
  exact m
theorem yy_h23 {post J2 J12 : Int32 → Prop} {n k p : Nat} {x1 : Int32} {g : Nat → Nat → Nat} (hn : n ≤ 5) (hI : ps_YI im n g) (hg : ps_Gd n g) (hr : ps_Ru c ln rl ra le) (hc : c ≤ 4) (hk : k < c) (hp : p < n) (k0 : ps_wk g (rl k) (ln k) p ≠ p → post 0) (k1 : ps_wk g (rl k) (ln k) p = p → J12 (nI (p + 1))) : ∀ d i, i + d = ln k → wY_holds_23 post J2 J12 x1 (nI k) (nI p) (nI L) (nI c) mn w le ra fi se pm im ot od pl kn an tb ks (d + 1) (nI (ps_wk g (rl k) i p)) (nI i) := by
  have gk := hr k hk
  have g1 := gk.1
  have v4 : vp_in (nI k) 4 := vp_in_nI (by omega) (by decide)
  have el : le (nI k).toNatClampNeg = nI (ln k) := ps_rd rfl (by omega) gk.2.1
  intro d
  induction d with
  | zero =>
    intro i hi
    obtain rfl : i = ln k := by omega
    have hat := ps_wk_lt (r := rl k) hg (ln k) p (fun j hj => (gk.2.2 j hj).1) hp
    refine ⟨v4, br_t (by rw [el]; exact nI_le (by omega) (by omega)) ?_⟩
    by_cases z : ps_wk g (rl k) (ln k) p = p
    · exact br_t (by rw [z]) (nm_r (nI_1 p) (k1 z))
    · exact br_f (fun q => z ((nI_eq (by omega) (by omega)).mp q)) (k0 z)
  | succ d ih =>
    intro i hi
    have hl := gk.2.2 i (by omega)
    have h4 := hl.1
    have hat := ps_wk_lt (r := rl k) hg i p (fun j hj => (gk.2.2 j (by omega)).1) hp
    have er : ra ((8 * nI k) + nI i).toNatClampNeg = nI (rl k i) := ps_rd (ps_8x k i) (by omega) hl.2
    have ex : (5 * ra ((8 * nI k) + nI i).toNatClampNeg) + nI (ps_wk g (rl k) i p) = nI (5 * rl k i + ps_wk g (rl k) i p) := by rw [er]; exact ps_5x _ _
    exact ⟨v4, br_f (by rw [el]; exact nI_ge (by omega) (by omega)) ⟨pk_in (8 * k + i) 32 (by omega) (ps_8x k i), ⟨pk_in (5 * rl k i + ps_wk g (rl k) i p) 20 (by omega) ex, nm_r (e' := nI (ps_wk g (rl k) (i + 1) p)) (ps_rd ex (by omega) (hI _ h4 _ hat)) (nm_r (nI_1 i) (ih (i + 1) (by omega)))⟩⟩⟩
theorem yy_h12 {post J : Int32 → Prop} {n k : Nat} {g : Nat → Nat → Nat} (hn : n ≤ 5) (hI : ps_YI im n g) (hg : ps_Gd n g) (hr : ps_Ru c ln rl ra le) (hc : c ≤ 4) (hk : k < c) (k0 : (∃ q, q < n ∧ ps_wk g (rl k) (ln k) q ≠ q) → post 0) (k1 : (∀ q, q < n → ps_wk g (rl k) (ln k) q = q) → J (nI (k + 1))) : ∀ d p, p + d = n → (∀ q, q < p → ps_wk g (rl k) (ln k) q = q) → wY_holds_12 post J (nI n) (nI k) (nI L) (nI c) mn w le ra fi se pm im ot od pl kn an tb ks (d + 1) (nI p) := by
  intro d
  induction d with
  | zero =>
    intro p hp h
    obtain rfl : p = n := by omega
    exact br_t (nI_le (by omega) (by omega)) (nm_r (nI_1 k) (k1 h))
  | succ d ih =>
    intro p hp h
    exact br_f (nI_ge (by omega) (by omega)) ⟨ln k + 1, yy_h23 hn hI hg hr hc hk (by omega) (fun z => k0 ⟨p, by omega, z⟩) (fun z => ih (p + 1) (by omega) (lt_s h z)) (ln k) 0 (by omega)⟩
theorem yy_h2 {post : Int32 → Prop} {n : Nat} {g : Nat → Nat → Nat} (hn : n ≤ 5) (hI : ps_YI im n g) (hg : ps_Gd n g) (hr : ps_Ru c ln rl ra le) (hc : c ≤ 4) (K : post (ps_b (ps_hb n c ln rl g))) : ∀ d k, k + d = c → (∀ k', k' < k → ∀ q, q < n → ps_wk g (rl k') (ln k') q = q) → wY_holds_2 post (nI n) (nI L) (nI c) mn w le ra fi se pm im ot od pl kn an tb ks (d + 1) (nI k) := by
  intro d
  induction d with
  | zero =>
    intro k hk h
    obtain rfl : k = c := by omega
    have e : ps_hb n k ln rl g = true := decide_eq_true h
    rw [e] at K
    exact br_t (nI_le (by omega) (by omega)) K
  | succ d ih =>
    intro k hk h
    refine br_f (nI_ge (by omega) (by omega)) ⟨n + 1, yy_h12 hn hI hg hr hc (by omega) (fun hx => ?_) (fun hx => ih (k + 1) (by omega) (lt_s h hx)) n 0 (by omega) (fun q hq => by omega)⟩
    obtain ⟨q, hq, hne⟩ := hx
    have e : ps_hb n c ln rl g = false := decide_eq_false (fun hh => hne (hh k (by omega) q hq))
    rw [e] at K
    exact K
theorem yy_holds {post : Int32 → Prop} {n : Nat} {g : Nat → Nat → Nat} (hn : n ≤ 5) (hI : ps_YI im n g) (hg : ps_Gd n g) (hr : ps_Ru c ln rl ra le) (hc : c ≤ 4) (K : post (ps_b (ps_hb n c ln rl g))) : wpY_holds post (nI L, nI c, mn, w, le, ra, fi, se, pm, im, ot, od, pl, kn, an, tb, ks) (nI n) :=
  ⟨c + 1, yy_h2 hn hI hg hr hc K c 0 (by omega) (fun k hk => by omega)⟩
theorem yy_t19 {post : Int32 → Prop} {J : Int32 → Int32 → Prop} {n p : Nat} {g : Nat → Nat → Nat} (hn : n ≤ 5) (hp : p < n) (hI : ps_YI im n g) (hg : ps_Gd n g) : ∀ d l met, l + d = 4 → met ≤ n → (ps_tL g p d l met = none → post 0) → (∀ m, ps_tL g p d l met = some m → m ≤ n → J (nI m) (nI (p + 1))) → wY_isTable_19 post J (nI n) (nI p) (nI L) (nI c) mn w le ra fi se pm im ot od pl kn an tb ks (d + 1) (nI met) (nI l) := by
  intro d
  induction d with
  | zero =>
    intro l met hl hm q0 q1
    obtain rfl : l = 4 := by omega
    exact br_t (nI_le (a := 4) (b := 4) (by decide) (by decide)) (nm_r (nI_1 p) (q1 met rfl hm))
  | succ d ih =>
    intro l met hl hm q0 q1
    have hq := hg l (by omega) p hp
    rw [ps_tL, ps_fc_eq] at q0 q1
    refine br_f (nI_ge (b := 4) (by omega) (by decide)) ⟨pk_in (5 * l + p) 20 (by omega) (ps_5x l p), nm_r (e' := nI (g l p)) (ps_rd (ps_5x l p) (by omega) (hI l (by omega) p hp)) ?_⟩
    by_cases z : met < g l p
    · rw [if_pos z] at q0
      exact br_f (nI_ge z (by omega)) (q0 rfl)
    · rw [if_neg z] at q0 q1
      refine br_t (nI_le (by omega) (by omega)) ?_
      by_cases z2 : g l p = met
      · rw [if_pos z2] at q0 q1
        exact br_t (by rw [z2]) (nm_r (nI_1 met) (nm_r (nI_1 l) (ih (l + 1) (met + 1) (by omega) (by omega) q0 q1)))
      · rw [if_neg z2] at q0 q1
        exact br_f (fun q => z2 ((nI_eq (by omega) (by omega)).mp q)) (nm_r (nI_1 l) (ih (l + 1) met (by omega) hm q0 q1))
theorem yy_t4 {post : Int32 → Prop} {n : Nat} {g : Nat → Nat → Nat} (hn : n ≤ 5) (hI : ps_YI im n g) (hg : ps_Gd n g) : ∀ d p met, p + d = n → met ≤ n → post (ps_b (ps_tP g d p met)) → wY_isTable_4 post (nI n) (nI L) (nI c) mn w le ra fi se pm im ot od pl kn an tb ks (d + 1) (nI met) (nI p) := by
  intro d
  induction d with
  | zero =>
    intro p met hp hm h
    obtain rfl : p = n := by omega
    exact br_t (nI_le (by omega) (by omega)) h
  | succ d ih =>
    intro p met hp hm h
    refine br_f (nI_ge (by omega) (by omega)) ?_
    by_cases z : met ≤ p
    · rw [ps_tP, if_pos z] at h
      exact br_f (nI_nlt z (by omega)) h
    · rw [ps_tP, if_neg z] at h
      refine br_t (nI_lt (by omega) (by omega)) ⟨5, yy_t19 hn (by omega) hI hg 4 0 met rfl hm (fun e => ?_) (fun m e hm' => ?_)⟩
      · rw [e] at h
        exact h
      · rw [e] at h
        exact ih (p + 1) m (by omega) hm' h
theorem yy_isT {post : Int32 → Prop} {n : Nat} {g : Nat → Nat → Nat} (h0 : 0 < n) (hn : n ≤ 5) (hI : ps_YI im n g) (hg : ps_Gd n g) (h : post (ps_b (ps_isT n g))) : wpY_isTable post (nI L, nI c, mn, w, le, ra, fi, se, pm, im, ot, od, pl, kn, an, tb, ks) (nI n) :=
  ⟨n + 1, yy_t4 hn hI hg n 0 1 (by omega) (by omega) h⟩
theorem yy_k14 {post : Int64 → Prop} {J : Int64 → Int32 → Prop} {n p : Nat} {g : Nat → Nat → Nat} (hn : n ≤ 5) (hp : p < n) (hI : ps_YI im n g) (hg : ps_Gd n g) (KJ : J (lN (ps_kf 5 (ps_dg g) (4 * (p + 1)))) (nI (p + 1))) : ∀ d l, l + d = 4 → wY_key_14 post J (nI n) (nI p) (nI L) (nI c) mn w le ra fi se pm im ot od pl kn an tb ks (d + 1) (lN (ps_kf 5 (ps_dg g) (4 * p + l))) (nI l) := by
  intro d
  induction d with
  | zero =>
    intro l hl
    obtain rfl : l = 4 := by omega
    exact br_t (nI_le (a := 4) (b := 4) (by decide) (by decide)) (nm_r (nI_1 p) KJ)
  | succ d ih =>
    intro l hl
    have hv := hg l (by omega) p hp
    refine br_f (nI_ge (b := 4) (by omega) (by decide)) ⟨pk_in (5 * l + p) 20 (by omega) (ps_5x l p), nm_r (e' := lN (ps_kf 5 (ps_dg g) (4 * p + (l + 1)))) ?_ (nm_r (nI_1 l) (ih (l + 1) (by omega)))⟩
    rw [ps_rd (ps_5x l p) (by omega) (hI l (by omega) p hp), ps_5k _ (by omega), ← Nat.add_assoc, ps_kf, ps_dg, show (4 * p + l) % 4 = l by omega, show (4 * p + l) / 4 = p by omega]
theorem yy_k5 {post : Int64 → Prop} {n : Nat} {g : Nat → Nat → Nat} (hn : n ≤ 5) (hI : ps_YI im n g) (hg : ps_Gd n g) (K : post (lN (ps_kf 5 (ps_dg g) (4 * n)))) : ∀ d p, p + d = n → wY_key_5 post (nI n) (nI L) (nI c) mn w le ra fi se pm im ot od pl kn an tb ks (d + 1) (lN (ps_kf 5 (ps_dg g) (4 * p))) (nI p) := by
  intro d
  induction d with
  | zero =>
    intro p hp
    obtain rfl : p = n := by omega
    exact br_t (nI_le (by omega) (by omega)) K
  | succ d ih =>
    intro p hp
    exact br_f (nI_ge (by omega) (by omega)) ⟨5, yy_k14 hn (by omega) hI hg (ih (p + 1) (by omega)) 4 0 rfl⟩
theorem yy_key {post : Int64 → Prop} {n : Nat} {g : Nat → Nat → Nat} (hn : n ≤ 5) (hI : ps_YI im n g) (hg : ps_Gd n g) (K : post (lN (ps_cv (4 * n) (ps_ky n g)))) : wpY_key post (nI L, nI c, mn, w, le, ra, fi, se, pm, im, ot, od, pl, kn, an, tb, ks) (nI n) := by
  rw [ps_ky, ps_cv_kf _ (fun i hi => Nat.lt_of_lt_of_le (ps_dg_lt hg i hi) (by omega))] at K
  exact ⟨n + 1, yy_k5 hn hI hg K n 0 (by omega)⟩
end
end
section
/-! the reference: keep, work -/
def yy_WI (n c : Nat) (ln : Nat → Nat) (rl : Nat → Nat → Nat) (an0 tb0 : Nat → Int32) (ks0 : Nat → Int64) (t : Nat) (an tb : Nat → Int32) (ks : Nat → Int64) (A : List Nat) : Prop :=
  ps_Kp (ps_eY n) (ps_G n c ln rl) (ps_cv (4 * n)) t A ∧ ps_Ar ks (461 * n) A ∧ an n = nI (((List.range t).map (ps_eY n)).countP (ps_H n c ln rl)) ∧ tb n = nI A.length ∧ (∀ m, m ≠ n → an m = an0 m ∧ tb m = tb0 m) ∧ (∀ j, ¬ (461 * n ≤ j ∧ j < 461 * n + 461) → ks j = ks0 j)
theorem ps_eY_mem {n t : Nat} (h0 : 0 < n) (hn : n ≤ 5) (ht : t < (ps_cY n).length * (ps_cY n).length) : ps_eY n t ∈ ps_XL n :=
  (ps_XY (ev_perm h0 hn)).mem_iff.mpr (List.mem_map.mpr ⟨t, List.mem_range.mpr ht, rfl⟩)
section
variable {L c : Nat} {mn : Int32} {w le ra fi se pm im ot od pl kn an tb : Nat → Int32} {ks : Nat → Int64}
variable {ln : Nat → Nat} {rl : Nat → Nat → Nat}
theorem yy_kp67 {post : SY → Prop} {n K T m : Nat} {A B : List Nat} {ks' ks0 : Nat → Int64} (hn : n ≤ 5) (hT : A.length + B.length = T) (hT4 : T < 461) (hm : A.length = m) (htb : tb n = nI T) (hS : ps_Sp ks' (461 * n) A B) (hs : (A ++ B).Pairwise (· ≤ ·)) (hA : ∀ a, a ∈ A → a ≤ K) (hB : ∀ b, b ∈ B → K ≤ b) (hO : ∀ j, ¬ (461 * n ≤ j ∧ j < 461 * n + 461) → ks' j = ks0 j) (KK : ∀ ks'' L', L'.Pairwise (· ≤ ·) → L'.Perm (K :: (A ++ B)) → ps_Ar ks'' (461 * n) L' → (∀ j, ¬ (461 * n ≤ j ∧ j < 461 * n + 461) → ks'' j = ks0 j) → post (nI L, nI c, mn, w, le, ra, fi, se, pm, im, ot, od, pl, kn, an, upd tb n (nI (T + 1)), ks'')) : wY_keep_67 post (nI n) (lN K) (nI m) (nI L) (nI c) mn w le ra fi se pm im ot od pl kn an tb ks' := by
  have hE := ps_Sp_end (K := K) hS
  rw [hm] at hE
  have vn : vp_in (nI n) 6 := vp_in_nI (by omega) (by decide)
  refine ⟨pk_in (461 * n + m) 2766 (by omega) (ps_46x n m), nm_r (e' := vp_updL ks' (461 * n + m) (lN K)) (ps_wrL (ps_46x n m) (by omega) rfl) ⟨vn, ⟨vn, nm_r (e' := upd tb n (nI (T + 1))) (ps_wr rfl (by omega) (by rw [ps_rd rfl (by omega) htb, nI_1])) (KK _ _ (ps_srt hs hA hB) List.perm_middle hE (fun j hj => ?_))⟩⟩⟩
  rw [pk_uLn (by omega)]
  exact hO j hj
theorem yy_kp8 {post : SY → Prop} {n K T : Nat} {ks0 : Nat → Int64} (hn : n ≤ 5) (hK : K < 2 ^ 63) (hT4 : T < 461) (htb : tb n = nI T) : ∀ m (A B : List Nat) ks', A.length = m → A.length + B.length = T → (∀ a, a ∈ A → a < 2 ^ 63) → ps_Sp ks' (461 * n) A B → (A ++ B).Pairwise (· ≤ ·) → (∀ b, b ∈ B → K ≤ b) → (∀ j, ¬ (461 * n ≤ j ∧ j < 461 * n + 461) → ks' j = ks0 j) → (∀ ks'' L', L'.Pairwise (· ≤ ·) → L'.Perm (K :: (A ++ B)) → ps_Ar ks'' (461 * n) L' → (∀ j, ¬ (461 * n ≤ j ∧ j < 461 * n + 461) → ks'' j = ks0 j) → post (nI L, nI c, mn, w, le, ra, fi, se, pm, im, ot, od, pl, kn, an, upd tb n (nI (T + 1)), ks'')) → wY_keep_8 post (nI n) (lN K) (nI L) (nI c) mn (m + 1) (nI m) w le ra fi se pm im ot od pl kn an tb ks' := by
  intro m
  induction m with
  | zero =>
    intro A B ks' hm hT hb hS hs hB hO KK
    have hA : A = [] := List.eq_nil_of_length_eq_zero hm
    exact br_t (by decide) (yy_kp67 hn hT hT4 hm htb hS hs (fun a ha => by rw [hA] at ha; exact absurd ha List.not_mem_nil) hB hO KK)
  | succ m ih =>
    intro A B ks' hm hT hb hS hs hB hO KK
    obtain ⟨A', x, rfl, hm'⟩ := ps_snoc hm
    have hx : x < 2 ^ 63 := hb x (List.mem_append.mpr (Or.inr (List.mem_singleton.mpr rfl)))
    have e0 : (461 * nI n) + nI (m + 1) = nI (461 * n + (m + 1)) := ps_46x n (m + 1)
    have e1 : ((461 * nI n) + nI (m + 1)) - 1 = nI (461 * n + m) := by rw [e0]; exact nI_pred (461 * n + m)
    have ec : ks' (((461 * nI n) + nI (m + 1)) - 1).toNatClampNeg = lN x := by
      refine ps_rdL e1 (by omega) ?_
      have h := hS.1 m (by omega)
      rw [h, ← hm']
      have g := ps_gB (A := A') (B := [x]) (i := 0) (d := 0)
      rw [Nat.add_zero] at g
      rw [g]
      rfl
    have v1 : vp_in (((461 * nI n) + nI (m + 1)) - 1) 2766 := pk_in (461 * n + m) 2766 (by omega) e1
    refine br_f (nI_nle (by omega) (by omega)) ⟨v1, ?_⟩
    by_cases z : x ≤ K
    · exact br_t (by rw [ec]; exact (pk_lLE hx hK).mpr z) (yy_kp67 hn hT hT4 hm htb hS hs (ps_srt_last hs z) hB hO KK)
    · refine br_f (by rw [ec, pk_lLE hx hK]; exact z) ⟨v1, ⟨pk_in (461 * n + (m + 1)) 2766 (by omega) e0, nm_r (e' := vp_updL ks' (461 * n + A'.length + 1) (ks' (461 * n + A'.length))) ?_ (nm_r (pk_m1 m) (ih A' (x :: B) _ hm' (by simp at hT ⊢; omega) (fun a ha => hb a (List.mem_append.mpr (Or.inl ha))) (ps_Sp_mv hS) (by simpa using hs) ?_ ?_ (fun ks'' L' q1 q2 q3 q4 => KK ks'' L' q1 (by simpa using q2) q3 q4)))⟩⟩
      · rw [hm', e1, e0, nI_clamp (by omega), nI_clamp (by omega)]
        rfl
      · intro b hb'
        rcases List.mem_cons.mp hb' with rfl | hb'
        · omega
        · exact hB b hb'
      · intro j hj
        rw [pk_uLn (by omega)]
        exact hO j hj
theorem yy_keep {post : SY → Prop} {n K : Nat} {A : List Nat} {ks0 : Nat → Int64} (hn : n ≤ 5) (hK : K < 2 ^ 63) (hT4 : A.length < 461) (htb : tb n = nI A.length) (hb : ∀ a, a ∈ A → a < 2 ^ 63) (hA : ps_Ar ks (461 * n) A) (hs : A.Pairwise (· ≤ ·)) (hO : ∀ j, ¬ (461 * n ≤ j ∧ j < 461 * n + 461) → ks j = ks0 j) (KK : ∀ ks'' L', L'.Pairwise (· ≤ ·) → L'.Perm (K :: A) → ps_Ar ks'' (461 * n) L' → (∀ j, ¬ (461 * n ≤ j ∧ j < 461 * n + 461) → ks'' j = ks0 j) → post (nI L, nI c, mn, w, le, ra, fi, se, pm, im, ot, od, pl, kn, an, upd tb n (nI (A.length + 1)), ks'')) : wpY_keep post (nI L, nI c, mn, w, le, ra, fi, se, pm, im, ot, od, pl, kn, an, tb, ks) (nI n) (lN K) :=
  ⟨vp_in_nI (by omega) (by decide), nm_r (e' := nI A.length) (ps_rd rfl (by omega) htb) ⟨A.length + 1, yy_kp8 hn hK hT4 htb A.length A [] ks rfl rfl hb ⟨hA, fun i hi => absurd hi (Nat.not_lt_zero i)⟩ (by simpa using hs) (fun b hb => absurd hb List.not_mem_nil) hO (fun ks'' L' q1 q2 q3 q4 => KK ks'' L' q1 (by simpa using q2) q3 q4)⟩⟩
theorem yy_w55 {post : SY → Prop} {J : Int32 → Int32 → Int32 → Int32 → (Nat → Int32) → (Nat → Int32) → (Nat → Int32) → (Nat → Int32) → (Nat → Int32) → (Nat → Int32) → (Nat → Int32) → (Nat → Int32) → (Nat → Int32) → (Nat → Int32) → (Nat → Int32) → (Nat → Int32) → (Nat → Int32) → (Nat → Int64) → Prop} {n i : Nat} {an0 tb0 : Nat → Int32} {ks0 : Nat → Int64} (h0 : 0 < n) (hn : n ≤ 5) (hr : ps_Ru c ln rl ra le) (hc : c ≤ 4) (hi : i < (ps_cY n).length) (hpm : ps_PA pm n (ps_cY n)) (KJ : ∀ im' an' tb' ks' A, yy_WI n c ln rl an0 tb0 ks0 ((i + 1) * (ps_cY n).length) an' tb' ks' A → J (nI (i + 1)) (nI L) (nI c) (nI (ps_cY n).length) w le ra fi se pm im' ot od pl kn an' tb' ks') : ∀ d j im' an' tb' ks' A, j + d = (ps_cY n).length → ps_Rw im' n 0 ((ps_cY n).getD i []) → yy_WI n c ln rl an0 tb0 ks0 (i * (ps_cY n).length + j) an' tb' ks' A → wY_work_55 post J (nI n) (nI i) (d + 1) (nI j) (nI L) (nI c) (nI (ps_cY n).length) w le ra fi se pm im' ot od pl kn an' tb' ks' := by
  have hfa := ev_fa hn
  have hyl := ev_cYl h0 hn
  have vn : vp_in (nI n) 6 := vp_in_nI (by omega) (by decide)
  intro d
  induction d with
  | zero =>
    intro j im' an' tb' ks' A hj hR hW
    obtain rfl : j = (ps_cY n).length := by omega
    rw [← Nat.succ_mul] at hW
    exact br_t (nI_le (by omega) (by omega)) (nm_r (nI_1 i) (KJ im' an' tb' ks' A hW))
  | succ d ih =>
    intro j im' an' tb' ks' A hj hR hW
    have hjN : j < (ps_cY n).length := by omega
    have ht : i * (ps_cY n).length + j < (ps_cY n).length * (ps_cY n).length := by
      have h1 : (i + 1) * (ps_cY n).length ≤ (ps_cY n).length * (ps_cY n).length := Nat.mul_le_mul_right _ hi
      rw [Nat.succ_mul] at h1
      omega
    have eK := ps_eY_eq (n := n) (i := i) hjN
    have hF := ev_XLFa h0 hn (ps_eY_mem h0 hn ht)
    have hG0 := ps_ac_Gd (ev_yl h0 hn hi) (ev_yl h0 hn hjN)
    obtain ⟨w1, w2, w3, w4, w5, w6⟩ := hW
    refine br_f (nI_ge hjN (by omega)) (yy_take (o := 2) (f := (ps_cY n).getD j []) hn (Or.inr rfl) (by omega) (ev_yl h0 hn hjN) (fun p hp => hpm j hjN p hp) (fun im2 hR2 hO => ?_))
    have hR1 : ps_Rw im2 n 0 ((ps_cY n).getD i []) := fun p hp => by
      rw [hO _ (by omega), hO _ (by omega)]
      exact hR p hp
    have hI0 := ps_Rw_YI hR1 hR2
    have hI : ps_YI im2 n (ps_gk n (ps_eY n (i * (ps_cY n).length + j))) := ps_YI_c hI0 (fun l hl p hp => by rw [eK]; exact ps_gk_ky hn hG0 l p hl hp)
    refine yy_holds hn hI hF.1 hr hc ?_
    cases hH : ps_hb n c ln rl (ps_gk n (ps_eY n (i * (ps_cY n).length + j))) with
    | false =>
      have hGf : ¬ ps_G n c ln rl (ps_eY n (i * (ps_cY n).length + j)) = true := by
        rw [ps_G, hH, Bool.and_false]
        decide
      refine br_t rfl (nm_r (nI_1 j) (ih (j + 1) im2 an' tb' ks' A (by omega) hR1 ⟨ps_Kp_n hGf w1, w2, ?_, w4, w5, w6⟩))
      rw [← Nat.add_assoc, ps_ct_f (e := ps_eY n) (H := ps_H n c ln rl) hH]
      exact w3
    | true =>
      have ea : an' (nI n).toNatClampNeg + 1 = nI (((List.range (i * (ps_cY n).length + j + 1)).map (ps_eY n)).countP (ps_H n c ln rl)) := by
        rw [ps_ct_t (e := ps_eY n) (H := ps_H n c ln rl) hH, ps_rd rfl (by omega) w3, nI_1]
      refine br_f (by decide) ⟨vn, ⟨vn, nm_r (e' := upd an' n (nI (((List.range (i * (ps_cY n).length + j + 1)).map (ps_eY n)).countP (ps_H n c ln rl)))) (ps_wr rfl (by omega) ea) (yy_key hn hI0 hG0 ?_)⟩⟩
      rw [← eK]
      refine yy_isT h0 hn hI hF.1 ?_
      cases hT : ps_isT n (ps_gk n (ps_eY n (i * (ps_cY n).length + j))) with
      | false =>
        have hGf : ¬ ps_G n c ln rl (ps_eY n (i * (ps_cY n).length + j)) = true := by
          rw [ps_G, hT, Bool.false_and]
          decide
        exact br_t rfl (nm_r (nI_1 j) (ih (j + 1) im2 _ tb' ks' A (by omega) hR1 ⟨ps_Kp_n hGf w1, w2, pk_us, w4, fun m hm => ⟨(pk_un hm).trans (w5 m hm).1, (w5 m hm).2⟩, w6⟩))
      | true =>
        have hGt : ps_G n c ln rl (ps_eY n (i * (ps_cY n).length + j)) = true := by rw [ps_G, hT, hH]; rfl
        refine br_f (by decide) (yy_keep (ks0 := ks0) hn (Nat.lt_trans (ps_K5 hn hF.2.2) (by decide)) (ps_Kp_room (M := (ps_cY n).length * (ps_cY n).length) (fun K h => ps_G_T K h) ht (ps_cntY h0 hn) w1 hGt) w4 (fun a ha => ?_) w2 w1.1 w6 (fun ks'' A' q1 q2 q3 q4 => nm_r (nI_1 j) (ih (j + 1) im2 _ _ ks'' A' (by omega) hR1 ⟨ps_Kp_y hGt w1 q1 q2, q3, pk_us, ?_, fun m hm => ⟨(pk_un hm).trans (w5 m hm).1, (pk_un hm).trans (w5 m hm).2⟩, q4⟩)))
        · obtain ⟨s, hs, rfl⟩ := ps_Kp_mem w1 ha
          exact Nat.lt_trans (ps_K5 hn (ev_XLFa h0 hn (ps_eY_mem h0 hn (by omega))).2.2) (by decide)
        · have hl : A'.length = A.length + 1 := by rw [q2.length_eq]; rfl
          rw [pk_us, hl]
theorem yy_w38 {post : SY → Prop} {n : Nat} {an0 tb0 : Nat → Int32} {ks0 : Nat → Int64} (h0 : 0 < n) (hn : n ≤ 5) (hr : ps_Ru c ln rl ra le) (hc : c ≤ 4) (hpm : ps_PA pm n (ps_cY n)) (K : ∀ im' an' tb' ks' A, yy_WI n c ln rl an0 tb0 ks0 ((ps_cY n).length * (ps_cY n).length) an' tb' ks' A → post (nI L, nI c, nI (ps_cY n).length, w, le, ra, fi, se, pm, im', ot, od, pl, kn, an', tb', ks')) : ∀ d i im' an' tb' ks' A, i + d = (ps_cY n).length → yy_WI n c ln rl an0 tb0 ks0 (i * (ps_cY n).length) an' tb' ks' A → wY_work_38 post (nI n) (d + 1) (nI i) (nI L) (nI c) (nI (ps_cY n).length) w le ra fi se pm im' ot od pl kn an' tb' ks' := by
  have hfa := ev_fa hn
  have hyl := ev_cYl h0 hn
  intro d
  induction d with
  | zero =>
    intro i im' an' tb' ks' A hi hW
    obtain rfl : i = (ps_cY n).length := by omega
    exact br_t (nI_le (by omega) (by omega)) (K im' an' tb' ks' A hW)
  | succ d ih =>
    intro i im' an' tb' ks' A hi hW
    have hiN : i < (ps_cY n).length := by omega
    exact br_f (nI_ge hiN (by omega)) (yy_take (o := 0) (f := (ps_cY n).getD i []) hn (Or.inl rfl) (by omega) (ev_yl h0 hn hiN) (fun p hp => hpm i hiN p hp) (fun im2 hR _ => ⟨(ps_cY n).length + 1, yy_w55 h0 hn hr hc hiN hpm (fun im' an' tb' ks' A hW => ih (i + 1) im' an' tb' ks' A (by omega) hW) (ps_cY n).length 0 im2 an' tb' ks' A (by omega) hR hW⟩))
theorem yy_work {post : SY → Prop} {n : Nat} (h0 : 0 < n) (hn : n ≤ 5) (hr : ps_Ru c ln rl ra le) (hc : c ≤ 4) (hY : ps_YC c ln rl kn an tb ks) (K : ∀ mn' pm' im' kn' an' tb' ks', ps_YC c ln rl kn' an' tb' ks' → ¬ kn' n = 0 → post (nI L, nI c, mn', w, le, ra, fi, se, pm', im', ot, od, pl, kn', an', tb', ks')) : wpY_work post (nI L, nI c, mn, w, le, ra, fi, se, pm, im, ot, od, pl, kn, an, tb, ks) (nI n) := by
  have vn : vp_in (nI n) 6 := vp_in_nI (by omega) (by decide)
  have ek : kn (nI n).toNatClampNeg = kn n := ps_rd rfl (by omega) rfl
  refine ⟨vn, ?_⟩
  rw [ek]
  by_cases z : kn n = 0
  · refine br_t z ⟨vn, nm_r (e' := upd kn n 1) (ps_wr rfl (by omega) ps_nar1) ⟨vn, nm_r (e' := upd an n 0) (ps_wr rfl (by omega) rfl) ⟨vn, nm_r (e' := upd tb n 0) (ps_wr rfl (by omega) rfl) (yy_lperm h0 hn (fun pm' hpm => ⟨(ps_cY n).length + 1, yy_w38 (an0 := an) (tb0 := tb) (ks0 := ks) h0 hn hr hc hpm (fun im' an' tb' ks' A hW => K _ _ _ _ _ _ _ ?_ ?_) (ps_cY n).length 0 im _ _ ks [] (by omega) ?_⟩))⟩⟩⟩
    · obtain ⟨w1, w2, w3, w4, w5, w6⟩ := hW
      have eA := ps_KpY h0 hn w1
      intro m hm0 hm5
      by_cases e : m = n
      · subst e
        refine Or.inr ⟨pk_us, ?_, ?_, ?_⟩
        · rw [w3]
          exact congrArg nI ((ps_XY (ev_perm hm0 hm5)).countP_eq (ps_H m c ln rl)).symm
        · rw [w4, eA, List.length_map]
        · rw [← eA]
          exact w2
      · rw [pk_un e, (w5 m e).1, (w5 m e).2]
        rcases hY m hm0 hm5 with h | ⟨g1, g2, g3, g4⟩
        · exact Or.inl h
        · refine Or.inr ⟨g1, g2, g3, fun i hi => ?_⟩
          have hl := ps_TL_len (c := c) (ln := ln) (rl := rl) hm0 hm5
          rw [List.length_map] at hi
          rw [w6 _ (by omega)]
          exact g4 i (by rw [List.length_map]; exact hi)
    · rw [pk_us]
      decide
    · rw [Nat.zero_mul]
      exact ⟨ps_Kp_0 _ _ _, fun i hi => absurd hi (Nat.not_lt_zero i), pk_us, pk_us, fun m hm => ⟨pk_un hm, pk_un hm⟩, fun _ _ => rfl⟩
  · exact br_f z (K _ _ _ _ _ _ _ hY z)
end
end
section
/-! the reference: a table at hand; tables, image, actions -/
def yy_OK (L c : Nat) (wn ln : Nat → Nat) (rl : Nat → Nat → Nat) (v : SY) : Prop := ∃ (mn : Int32) (w le ra fi se pm im ot od pl kn an tb : Nat → Int32) (ks : Nat → Int64), v = (nI L, nI c, mn, w, le, ra, fi, se, pm, im, ot, od, pl, kn, an, tb, ks) ∧ L ≤ 8 ∧ c ≤ 4 ∧ ps_Wo wn w ∧ ps_Ru c ln rl ra le ∧ ps_YC c ln rl kn an tb ks
theorem ps_YC_at {c : Nat} {ln : Nat → Nat} {rl : Nat → Nat → Nat} {kn an tb : Nat → Int32} {ks : Nat → Int64} (h : ps_YC c ln rl kn an tb ks) {n : Nat} (h0 : 0 < n) (hn : n ≤ 5) (hk : ¬ kn n = 0) : an n = nI ((ps_XL n).countP (ps_H n c ln rl)) ∧ tb n = nI (ps_TL n (ps_G n c ln rl)).length ∧ ps_Ar ks (461 * n) ((ps_TL n (ps_G n c ln rl)).map (ps_cv (4 * n))) := by
  rcases h n h0 hn with h | h
  · exact absurd h hk
  · exact h.2
theorem ps_YC_0 {c : Nat} {ln : Nat → Nat} {rl : Nat → Nat → Nat} {kn an tb : Nat → Int32} {ks : Nat → Int64} (h : ∀ n, n < 6 → kn n = 0) : ps_YC c ln rl kn an tb ks := fun n _ hn => Or.inl (h n (by omega))
theorem ps_ks {n k c : Nat} {ln : Nat → Nat} {rl : Nat → Nat → Nat} {ks : Nat → Int64} (h : ps_Ar ks (461 * n) ((ps_TL n (ps_G n c ln rl)).map (ps_cv (4 * n)))) (hk : k < (ps_TL n (ps_G n c ln rl)).length) : ks (461 * n + k) = lN (ps_cv (4 * n) ((ps_TL n (ps_G n c ln rl)).getD k 0)) := by
  rw [h k (by rw [List.length_map]; exact hk), ps_gM (d := 0) hk]
section
variable {L c : Nat} {mn : Int32} {w le ra fi se pm im ot od pl kn an tb : Nat → Int32} {ks : Nat → Int64}
variable {wn ln : Nat → Nat} {rl : Nat → Nat → Nat}
theorem yy_mk (hL : L ≤ 8) (hc : c ≤ 4) (hw : ps_Wo wn w) (hr : ps_Ru c ln rl ra le) (hY : ps_YC c ln rl kn an tb ks) : yy_OK L c wn ln rl (nI L, nI c, mn, w, le, ra, fi, se, pm, im, ot, od, pl, kn, an, tb, ks) := ⟨mn, w, le, ra, fi, se, pm, im, ot, od, pl, kn, an, tb, ks, rfl, hL, hc, hw, hr, hY⟩
theorem yy_sp26 {post : SY → Prop} {J : Int64 → Int32 → (Nat → Int32) → (Nat → Int32) → (Nat → Int32) → (Nat → Int32) → (Nat → Int32) → (Nat → Int32) → (Nat → Int32) → (Nat → Int32) → (Nat → Int32) → (Nat → Int32) → (Nat → Int32) → (Nat → Int32) → (Nat → Int32) → (Nat → Int64) → Prop} {n p K : Nat} (hn : n ≤ 5) (hp : p < n) (hK : ps_D5 (4 * n) K) (KJ : ∀ im' x5', x5' = nI p - 1 → (∀ l, l < 4 → ∀ q, q < n → 4 * p ≤ 4 * q + l → im' (5 * l + q) = nI (ps_gk n K l q)) → J (lN (ps_cv (4 * p) (K / 8 ^ (4 * n - 4 * p)))) x5' w le ra fi se pm im' ot od pl kn an tb ks) : ∀ s x6 im', s ≤ 4 → x6 = nI s - 1 → (∀ l, l < 4 → ∀ q, q < n → 4 * p + s ≤ 4 * q + l → im' (5 * l + q) = nI (ps_gk n K l q)) → wY_spread_26 post J (nI p) (nI L) (nI c) mn (s + 1) (lN (ps_cv (4 * p + s) (K / 8 ^ (4 * n - (4 * p + s))))) x6 w le ra fi se pm im' ot od pl kn an tb ks := by
  intro s
  induction s with
  | zero =>
    intro x6 im' hs hx h
    exact br_t (by rw [hx]; decide) (nm_e (KJ im' _ (by rw [Int32.sub_eq_add_neg]) h))
  | succ s ih =>
    intro x6 im' hs hx h
    have ex : x6 = nI s := by rw [hx]; exact nI_pred s
    subst ex
    have hM : ps_D5 (4 * p + s + 1) (K / 8 ^ (4 * n - (4 * p + (s + 1)))) := ps_D5_sh (4 * n - (4 * p + (s + 1))) (4 * p + s + 1) K (by rw [show 4 * n - (4 * p + (s + 1)) + (4 * p + s + 1) = 4 * n by omega]; exact hK)
    have hb : ps_cv (4 * p + s + 1) (K / 8 ^ (4 * n - (4 * p + (s + 1)))) < 2 ^ 63 := by
      refine Nat.lt_of_lt_of_le (ps_cv_5 _ _ hM) (Nat.le_trans (Nat.pow_le_pow_right (n := 5) (by decide) (show 4 * p + s + 1 ≤ 20 by omega)) (by decide))
    have hdm := ps_cv_dm hM
    have ed : K / 8 ^ (4 * n - (4 * p + (s + 1))) / 8 = K / 8 ^ (4 * n - (4 * p + s)) := by
      rw [Nat.div_div_eq_div_mul, ← Nat.pow_succ]
      congr 2
      omega
    have e1 : (lN (ps_cv (4 * p + (s + 1)) (K / 8 ^ (4 * n - (4 * p + (s + 1))))) - lN (ps_cv (4 * p + (s + 1)) (K / 8 ^ (4 * n - (4 * p + (s + 1))))) / 5 * 5).toInt32 = nI (ps_gk n K s p) := by
      have r := pk_lRem (b := 5) hb (by decide) (by decide)
      rw [hdm.2] at r
      have r' : lN (ps_cv (4 * p + (s + 1)) (K / 8 ^ (4 * n - (4 * p + (s + 1))))) - lN (ps_cv (4 * p + (s + 1)) (K / 8 ^ (4 * n - (4 * p + (s + 1))))) / 5 * 5 = lN (K / 8 ^ (4 * n - (4 * p + (s + 1))) % 8) := r
      rw [r', lN_i, ps_gk, show 4 * n - 1 - (4 * p + s) = 4 * n - (4 * p + (s + 1)) by omega]
    have e2 : lN (ps_cv (4 * p + (s + 1)) (K / 8 ^ (4 * n - (4 * p + (s + 1))))) / 5 = lN (ps_cv (4 * p + s) (K / 8 ^ (4 * n - (4 * p + s)))) := by
      have r := pk_lDiv (b := 5) hb (by decide) (by decide)
      rw [hdm.1, ed] at r
      exact r
    refine br_f (nI_pos (by omega)) ⟨by decide, ⟨pk_in (5 * s + p) 20 (by omega) (ps_5x s p), nm_r (e' := upd im' (5 * s + p) (nI (ps_gk n K s p))) (ps_wr (ps_5x s p) (by omega) e1) ⟨by decide, nm_r e2 (nm_e (ih _ _ (by omega) ?_ ?_))⟩⟩⟩
    · rw [Int32.sub_eq_add_neg]
    · intro l hl q hq h4
      by_cases e : l = s ∧ q = p
      · rw [e.1, e.2]
        exact pk_us
      · rw [pk_un (by omega)]
        exact h l hl q hq (by omega)
theorem yy_sp18 {post : SY → Prop} {n K : Nat} (hn : n ≤ 5) (hK : ps_D5 (4 * n) K) (KK : ∀ im', ps_YI im' n (ps_gk n K) → post (nI L, nI c, mn, w, le, ra, fi, se, pm, im', ot, od, pl, kn, an, tb, ks)) : ∀ q x5 im', q ≤ n → x5 = nI q - 1 → (∀ l, l < 4 → ∀ r, r < n → 4 * q ≤ 4 * r + l → im' (5 * l + r) = nI (ps_gk n K l r)) → wY_spread_18 post (nI L) (nI c) mn (q + 1) (lN (ps_cv (4 * q) (K / 8 ^ (4 * n - 4 * q)))) x5 w le ra fi se pm im' ot od pl kn an tb ks := by
  intro q
  induction q with
  | zero =>
    intro x5 im' hq hx h
    exact br_t (by rw [hx]; decide) (KK im' (fun l hl r hr => h l hl r hr (by omega)))
  | succ q ih =>
    intro x5 im' hq hx h
    have ex : x5 = nI q := by rw [hx]; exact nI_pred q
    subst ex
    exact br_f (nI_pos (by omega)) ⟨5, yy_sp26 hn (by omega) hK (fun im2 x5' e h2 => ih x5' im2 (by omega) e h2) 4 3 im' (by omega) (by decide) (fun l hl r hr h4 => h l hl r hr (by omega))⟩
theorem yy_spread {post : SY → Prop} {n k K : Nat} (hn : n ≤ 5) (hk : k < 461) (hks : ks (461 * n + k) = lN (ps_cv (4 * n) K)) (hK : ps_D5 (4 * n) K) (KK : ∀ im', ps_YI im' n (ps_gk n K) → post (nI L, nI c, mn, w, le, ra, fi, se, pm, im', ot, od, pl, kn, an, tb, ks)) : wpY_spread post (nI L, nI c, mn, w, le, ra, fi, se, pm, im, ot, od, pl, kn, an, tb, ks) (nI n) (nI k) := by
  refine ⟨pk_in (461 * n + k) 2766 (by omega) (ps_46x n k), nm_r (e' := lN (ps_cv (4 * n) K)) (ps_rdL (ps_46x n k) (by omega) hks) (nm_e ⟨n + 1, ?_⟩)⟩
  have h := yy_sp18 (L := L) (c := c) (mn := mn) (w := w) (le := le) (ra := ra) (fi := fi) (se := se) (pm := pm) (ot := ot) (od := od) (pl := pl) (kn := kn) (an := an) (tb := tb) (ks := ks) hn hK KK n (nI n - 1) im (Nat.le_refl _) rfl (fun l hl r hr h4 => by omega)
  rw [Nat.sub_self, Nat.pow_zero, Nat.div_one] at h
  exact h
theorem yy_tables_b {post : Int32 → SY → Prop} {v : Int32} (h : v < 1 ∨ 5 < v) (k : post (-1) (nI L, nI c, mn, w, le, ra, fi, se, pm, im, ot, od, pl, kn, an, tb, ks)) : wpY_tables post (nI L, nI c, mn, w, le, ra, fi, se, pm, im, ot, od, pl, kn, an, tb, ks) v := by
  unfold wpY_tables
  dsimp only
  exact yy_bad_b h (br_f (by decide) k)
theorem yy_tables_o {post : Int32 → SY → Prop} {n : Nat} (h0 : 0 < n) (hn : n ≤ 5) (hL : L ≤ 8) (hc : c ≤ 4) (hw : ps_Wo wn w) (hr : ps_Ru c ln rl ra le) (hY : ps_YC c ln rl kn an tb ks) (K : ∀ u', yy_OK L c wn ln rl u' → post (nI (ps_TL n (ps_G n c ln rl)).length) u') : wpY_tables post (nI L, nI c, mn, w, le, ra, fi, se, pm, im, ot, od, pl, kn, an, tb, ks) (nI n) := by
  unfold wpY_tables
  dsimp only
  refine yy_bad_o h0 hn (br_t rfl (yy_work h0 hn hr hc hY (fun mn' pm' im' kn' an' tb' ks' hY' hk => ⟨vp_in_nI (by omega) (by decide), ?_⟩)))
  dsimp only
  rw [ps_rd rfl (by omega) (ps_YC_at hY' h0 hn hk).2.1]
  exact K _ (yy_mk hL hc hw hr hY')
theorem yy_actions_b {post : Int32 → SY → Prop} {v : Int32} (h : v < 1 ∨ 5 < v) (k : post (-1) (nI L, nI c, mn, w, le, ra, fi, se, pm, im, ot, od, pl, kn, an, tb, ks)) : wpY_actions post (nI L, nI c, mn, w, le, ra, fi, se, pm, im, ot, od, pl, kn, an, tb, ks) v := by
  unfold wpY_actions
  dsimp only
  exact yy_bad_b h (br_f (by decide) k)
theorem yy_actions_o {post : Int32 → SY → Prop} {n : Nat} (h0 : 0 < n) (hn : n ≤ 5) (hL : L ≤ 8) (hc : c ≤ 4) (hw : ps_Wo wn w) (hr : ps_Ru c ln rl ra le) (hY : ps_YC c ln rl kn an tb ks) (K : ∀ u', yy_OK L c wn ln rl u' → post (nI ((ps_XL n).countP (ps_H n c ln rl))) u') : wpY_actions post (nI L, nI c, mn, w, le, ra, fi, se, pm, im, ot, od, pl, kn, an, tb, ks) (nI n) := by
  unfold wpY_actions
  dsimp only
  refine yy_bad_o h0 hn (br_t rfl (yy_work h0 hn hr hc hY (fun mn' pm' im' kn' an' tb' ks' hY' hk => ⟨vp_in_nI (by omega) (by decide), ?_⟩)))
  dsimp only
  rw [ps_rd rfl (by omega) (ps_YC_at hY' h0 hn hk).1]
  exact K _ (yy_mk hL hc hw hr hY')
theorem yy_noT_b {post : Int32 → SY → Prop} {n : Nat} {v : Int32} (h0 : 0 < n) (hn : n ≤ 5) (hL : L ≤ 8) (hc : c ≤ 4) (hw : ps_Wo wn w) (hr : ps_Ru c ln rl ra le) (hY : ps_YC c ln rl kn an tb ks) (h : v < 0 ∨ nI (ps_TL n (ps_G n c ln rl)).length ≤ v) (K : ∀ u', yy_OK L c wn ln rl u' → post 1 u') : wpY_noTable post (nI L, nI c, mn, w, le, ra, fi, se, pm, im, ot, od, pl, kn, an, tb, ks) (nI n) v := by
  unfold wpY_noTable
  dsimp only
  refine yy_work h0 hn hr hc hY (fun mn' pm' im' kn' an' tb' ks' hY' hk => ?_)
  dsimp only
  by_cases z : v < 0
  · exact br_t z (K _ (yy_mk hL hc hw hr hY'))
  · rcases h with h | h
    · exact absurd h z
    · refine br_f z ⟨vp_in_nI (by omega) (by decide), br_f ?_ (K _ (yy_mk hL hc hw hr hY'))⟩
      rw [ps_rd rfl (by omega) (ps_YC_at hY' h0 hn hk).2.1]
      exact Int32.not_lt.mpr h
theorem yy_noT_o {post : Int32 → SY → Prop} {n k : Nat} (h0 : 0 < n) (hn : n ≤ 5) (hr : ps_Ru c ln rl ra le) (hc : c ≤ 4) (hY : ps_YC c ln rl kn an tb ks) (h : k < (ps_TL n (ps_G n c ln rl)).length) (K : ∀ mn' pm' im' kn' an' tb' ks', ps_YC c ln rl kn' an' tb' ks' → ¬ kn' n = 0 → post 0 (nI L, nI c, mn', w, le, ra, fi, se, pm', im', ot, od, pl, kn', an', tb', ks')) : wpY_noTable post (nI L, nI c, mn, w, le, ra, fi, se, pm, im, ot, od, pl, kn, an, tb, ks) (nI n) (nI k) := by
  have hT := ps_TL_len (c := c) (ln := ln) (rl := rl) h0 hn
  unfold wpY_noTable
  dsimp only
  refine yy_work h0 hn hr hc hY (fun mn' pm' im' kn' an' tb' ks' hY' hk => ?_)
  dsimp only
  refine br_f (nI_pos (by omega)) ⟨vp_in_nI (by omega) (by decide), br_t ?_ (K _ _ _ _ _ _ _ hY' hk)⟩
  rw [ps_rd rfl (by omega) (ps_YC_at hY' h0 hn hk).2.1]
  exact nI_lt h (by omega)
theorem yy_image_b1 {post : Int32 → SY → Prop} {v v2 v3 v4 : Int32} (h : v < 1 ∨ 5 < v) (k : post (-1) (nI L, nI c, mn, w, le, ra, fi, se, pm, im, ot, od, pl, kn, an, tb, ks)) : wpY_image post (nI L, nI c, mn, w, le, ra, fi, se, pm, im, ot, od, pl, kn, an, tb, ks) v v2 v3 v4 := by
  unfold wpY_image
  dsimp only
  exact yy_bad_b h (br_f (by decide) k)
theorem yy_image_b2 {post : Int32 → SY → Prop} {n : Nat} {v2 v3 v4 : Int32} (h0 : 0 < n) (hn : n ≤ 5) (h : v3 < 0 ∨ nI n ≤ v3) (k : post (-1) (nI L, nI c, mn, w, le, ra, fi, se, pm, im, ot, od, pl, kn, an, tb, ks)) : wpY_image post (nI L, nI c, mn, w, le, ra, fi, se, pm, im, ot, od, pl, kn, an, tb, ks) (nI n) v2 v3 v4 := by
  unfold wpY_image
  dsimp only
  refine yy_bad_o h0 hn (br_t rfl ?_)
  by_cases z : v3 < 0
  · exact br_t z k
  · rcases h with h | h
    · exact absurd h z
    · exact br_f z (br_t h k)
theorem yy_image_b3 {post : Int32 → SY → Prop} {n p : Nat} {v2 v4 : Int32} (h0 : 0 < n) (hn : n ≤ 5) (hp : p < n) (h : v4 < 0 ∨ nI 4 ≤ v4) (k : post (-1) (nI L, nI c, mn, w, le, ra, fi, se, pm, im, ot, od, pl, kn, an, tb, ks)) : wpY_image post (nI L, nI c, mn, w, le, ra, fi, se, pm, im, ot, od, pl, kn, an, tb, ks) (nI n) v2 (nI p) v4 := by
  unfold wpY_image
  dsimp only
  refine yy_bad_o h0 hn (br_t rfl (br_f (nI_pos (by omega)) (br_f (nI_ge hp (by omega)) ?_)))
  by_cases z : v4 < 0
  · exact br_t z k
  · rcases h with h | h
    · exact absurd h z
    · exact br_f z (br_f (fun q => absurd (Int32.le_trans h q) (by decide)) k)
theorem yy_image_b4 {post : Int32 → SY → Prop} {n p l : Nat} {v2 : Int32} (h0 : 0 < n) (hn : n ≤ 5) (hp : p < n) (hl : l < 4) (hL : L ≤ 8) (hc : c ≤ 4) (hw : ps_Wo wn w) (hr : ps_Ru c ln rl ra le) (hY : ps_YC c ln rl kn an tb ks) (h : v2 < 0 ∨ nI (ps_TL n (ps_G n c ln rl)).length ≤ v2) (K : ∀ u', yy_OK L c wn ln rl u' → post (-4) u') : wpY_image post (nI L, nI c, mn, w, le, ra, fi, se, pm, im, ot, od, pl, kn, an, tb, ks) (nI n) v2 (nI p) (nI l) := by
  unfold wpY_image
  dsimp only
  refine yy_bad_o h0 hn (br_t rfl (br_f (nI_pos (by omega)) (br_f (nI_ge hp (by omega)) (br_f (nI_pos (by omega)) (br_t (nI_le (b := 3) (by omega) (by decide)) (yy_noT_b h0 hn hL hc hw hr hY h (fun u' hu => ?_)))))))
  obtain ⟨mn, w, le, ra, fi, se, pm, im, ot, od, pl, kn, an, tb, ks, rfl, r⟩ := hu
  exact br_f (by decide) (K _ ⟨mn, w, le, ra, fi, se, pm, im, ot, od, pl, kn, an, tb, ks, rfl, r⟩)
theorem yy_image_o {post : Int32 → SY → Prop} {n p l k : Nat} (h0 : 0 < n) (hn : n ≤ 5) (hp : p < n) (hl : l < 4) (hL : L ≤ 8) (hc : c ≤ 4) (hw : ps_Wo wn w) (hr : ps_Ru c ln rl ra le) (hY : ps_YC c ln rl kn an tb ks) (h : k < (ps_TL n (ps_G n c ln rl)).length) (K : ∀ u', yy_OK L c wn ln rl u' → post (nI (ps_gk n ((ps_TL n (ps_G n c ln rl)).getD k 0) l p)) u') : wpY_image post (nI L, nI c, mn, w, le, ra, fi, se, pm, im, ot, od, pl, kn, an, tb, ks) (nI n) (nI k) (nI p) (nI l) := by
  have hT := ps_TL_len (c := c) (ln := ln) (rl := rl) h0 hn
  have hF := (ps_TLFa h0 hn h).1
  unfold wpY_image
  dsimp only
  refine yy_bad_o h0 hn (br_t rfl (br_f (nI_pos (by omega)) (br_f (nI_ge hp (by omega)) (br_f (nI_pos (by omega)) (br_t (nI_le (b := 3) (by omega) (by decide)) (yy_noT_o h0 hn hr hc hY h (fun mn' pm' im' kn' an' tb' ks' hY' hk => br_t rfl (yy_spread hn (by omega) (ps_ks (ps_YC_at hY' h0 hn hk).2.2 h) hF.2.2 (fun im2 hI => ⟨pk_in (5 * l + p) 20 (by omega) (ps_5x l p), ?_⟩)))))))))
  dsimp only
  rw [ps_rd (ps_5x l p) (by omega) (hI l hl p hp)]
  exact K _ (yy_mk hL hc hw hr hY')
end
end
section
/-! the reference: numbering anew; even, kinds -/
def yy_nv (e : Nat) : Int32 := if e = 9 then -1 else nI e
theorem yy_nvn {e : Nat} (h : e ≠ 9) : yy_nv e = nI e := if_neg h
def yy_Rn (n : Nat) (f : Nat → Nat) (a : Nat → Int32) : Prop := ∀ q, q < n → a q = yy_nv (f q)
theorem yy_Rn_up {n : Nat} {f : Nat → Nat} {a : Nat → Int32} (h : yy_Rn n f a) (q met : Nat) (hm : met ≠ 9) : yy_Rn n (ps_up f q met) (upd a q (nI met)) := by
  intro x hx
  show (if x = q then nI met else a x) = yy_nv (if x = q then met else f x)
  by_cases e : x = q
  · rw [if_pos e, if_pos e, yy_nvn hm]
  · rw [if_neg e, if_neg e]
    exact h x hx
def ps_as (n K s : Nat) : Bool := decide (∀ q, q < s → 0 < q → ps_rn n (ps_gk n K) q = some K)
def ps_fs (n K s : Nat) : Bool := decide (∀ q, q < s → 0 < q → ps_ltO n K q = false)
section
variable {L c : Nat} {mn : Int32} {w le ra fi se pm im ot od pl kn an tb : Nat → Int32} {ks : Nat → Int64}
theorem yy_fr51 {post : Int64 → SY → Prop} {J : Int32 → Int64 → Int32 → (Nat → Int32) → (Nat → Int32) → (Nat → Int32) → (Nat → Int32) → (Nat → Int32) → (Nat → Int32) → (Nat → Int32) → (Nat → Int32) → (Nat → Int32) → (Nat → Int32) → (Nat → Int32) → (Nat → Int32) → (Nat → Int32) → (Nat → Int64) → Prop} {n i q0 R : Nat} {g : Nat → Nat → Nat} {k : Nat → (Nat → Nat) → (Nat → Nat) → Nat → Option Nat} (hn : n ≤ 5) (hi : i < n) (hq0 : q0 < n) (hI : ps_YI im n g) (KJ : ∀ met' f' m' key' od' pl', met' ≤ n → yy_Rn n f' pl' → ps_Rm met' m' od' → k met' f' m' key' = some R → J (nI met') (lN (ps_cv (4 * (i + 1)) key')) (nI (i + 1)) w le ra fi se pm im ot od' pl' kn an tb ks) : ∀ d l met f m key od' pl', l + d = 4 → i < met → met ≤ n → m i = q0 → yy_Rn n f pl' → ps_Rm met m od' → ps_nL n g q0 k d l met f m key = some R → wY_from_51 post J (nI n) (nI i) (nI L) (nI c) mn (d + 1) (nI met) (lN (ps_cv (4 * i + l) key)) (nI l) w le ra fi se pm im ot od' pl' kn an tb ks := by
  intro d
  induction d with
  | zero =>
    intro l met f m key od' pl' hl him hm hmi h1 h2 hR
    obtain rfl : l = 4 := by omega
    exact br_t (nI_le (a := 4) (b := 4) (by decide) (by decide)) (nm_r (nI_1 i) (KJ met f m key od' pl' hm h1 h2 hR))
  | succ d ih =>
    intro l met f m key od' pl' hl him hm hmi h1 h2 hR
    rw [ps_nL, ps_fc_eq] at hR
    by_cases hq : g l q0 < n
    · rw [if_pos hq, ps_fc_eq] at hR
      have eo : od' (nI i).toNatClampNeg = nI q0 := ps_rd rfl (by omega) (by rw [h2 i him, hmi])
      have ex : (5 * nI l) + od' (nI i).toNatClampNeg = nI (5 * l + q0) := by rw [eo]; exact ps_5x _ _
      have v8 : vp_in (nI (g l q0)) 5 := vp_in_nI (by omega) (by decide)
      have ea : pl' (nI (g l q0)).toNatClampNeg = yy_nv (f (g l q0)) := ps_rd rfl (by omega) (h1 _ hq)
      refine br_f (nI_ge (b := 4) (by omega) (by decide)) ⟨vp_in_nI (by omega) (by decide), ⟨pk_in (5 * l + q0) 20 (by omega) ex, nm_r (e' := nI (g l q0)) (ps_rd ex (by omega) (hI l (by omega) q0 hq0)) ⟨v8, ?_⟩⟩⟩
      by_cases h9 : f (g l q0) = 9
      · rw [if_pos h9] at hR
        by_cases hmn : met < n
        · rw [if_pos hmn] at hR
          have hne : met ≠ 9 := by omega
          have hb := ih (l + 1) (met + 1) _ _ _ _ _ (by omega) (by omega) (by omega) (show ps_up m met (g l q0) i = q0 by rw [ps_up, if_neg (by omega)]; exact hmi) (yy_Rn_up h1 (g l q0) met hne) (ps_Rm_up h2 (g l q0)) hR
          refine br_f (by rw [ea, h9]; decide) ⟨v8, nm_r (e' := upd pl' (g l q0) (nI met)) (ps_wr rfl (by omega) rfl) ⟨vp_in_nI (by omega) (by decide), nm_r (e' := upd od' met (nI (g l q0))) (ps_wr rfl (by omega) rfl) (nm_r (nI_1 met) ⟨v8, nm_r (e' := lN (ps_cv (4 * i + (l + 1)) (8 * key + met))) ?_ (nm_r (nI_1 l) hb)⟩)⟩⟩
          rw [ps_rd rfl (by omega) pk_us, ps_5k _ (by omega), ← Nat.add_assoc, ps_cv_st (by omega)]
        · rw [if_neg hmn] at hR
          cases hR
      · rw [if_neg h9] at hR
        by_cases he : f (g l q0) < n
        · rw [if_pos he] at hR
          have hb := ih (l + 1) met f m _ od' pl' (by omega) him hm hmi h1 h2 hR
          refine br_t (by rw [ea, yy_nvn h9]; exact nI_pos' (by omega)) ⟨v8, nm_r (e' := lN (ps_cv (4 * i + (l + 1)) (8 * key + f (g l q0)))) ?_ (nm_r (nI_1 l) hb)⟩
          rw [ea, yy_nvn h9, ps_5k _ (by omega), ← Nat.add_assoc, ps_cv_st (by omega)]
        · rw [if_neg he] at hR
          cases hR
    · rw [if_neg hq] at hR
      cases hR
theorem yy_fr42 {post : Int64 → SY → Prop} {n R : Nat} {g : Nat → Nat → Nat} (hn : n ≤ 5) (hI : ps_YI im n g) (KK : ∀ od' pl', post (lN (ps_cv (4 * n) R)) (nI L, nI c, mn, w, le, ra, fi, se, pm, im, ot, od', pl', kn, an, tb, ks)) : ∀ d i met f m key od' pl', i + d = n → met ≤ n → yy_Rn n f pl' → ps_Rm met m od' → ps_nR n g d i met f m key = some R → wY_from_42 post (nI n) (nI L) (nI c) mn (d + 1) (nI met) (lN (ps_cv (4 * i) key)) (nI i) w le ra fi se pm im ot od' pl' kn an tb ks := by
  intro d
  induction d with
  | zero =>
    intro i met f m key od' pl' hi hm h1 h2 hR
    obtain rfl : i = n := by omega
    have e : key = R := Option.some.inj hR
    subst e
    exact br_t (nI_le (by omega) (by omega)) (KK od' pl')
  | succ d ih =>
    intro i met f m key od' pl' hi hm h1 h2 hR
    rw [ps_nR] at hR
    by_cases z : i < met
    · rw [if_pos z] at hR
      by_cases z2 : m i < n
      · rw [if_pos z2] at hR
        exact br_f (nI_ge (by omega) (by omega)) ⟨5, yy_fr51 hn (by omega) z2 hI (fun met' f' m' key' od2 pl2 q1 q2 q3 q4 => ih (i + 1) met' f' m' key' od2 pl2 (by omega) q1 q2 q3 q4) 4 0 met f m key od' pl' rfl z hm rfl h1 h2 hR⟩
      · rw [if_neg z2] at hR
        cases hR
    · rw [if_neg z] at hR
      cases hR
theorem yy_fr2 {post : Int64 → SY → Prop} {n s R : Nat} {g : Nat → Nat → Nat} (hn : n ≤ 5) (hs : s < n) (hI : ps_YI im n g) (hR : ps_rn n g s = some R) (KK : ∀ od' pl', post (lN (ps_cv (4 * n) R)) (nI L, nI c, mn, w, le, ra, fi, se, pm, im, ot, od', pl', kn, an, tb, ks)) : ∀ d i pl', i + d = n → (∀ q, q < i → pl' q = -1) → wY_from_2 post (nI s) (nI n) (nI L) (nI c) mn (d + 1) (nI i) w le ra fi se pm im ot od pl' kn an tb ks := by
  intro d
  induction d with
  | zero =>
    intro i pl' hi h
    obtain rfl : i = n := by omega
    refine br_t (nI_le (by omega) (by omega)) (nm_e ⟨vp_in_nI (by omega) (by decide), nm_r (e' := upd pl' s (nI 0)) (ps_wr rfl (by omega) rfl) ⟨i + 1, yy_fr42 hn hI KK i 0 1 _ _ 0 _ _ (by omega) (by omega) (yy_Rn_up (f := fun _ => 9) (fun q hq => ?_) s 0 (by decide)) (fun j hj => ?_) hR⟩⟩)
    · exact h q hq
    · obtain rfl : j = 0 := by omega
      exact pk_us
  | succ d ih =>
    intro i pl' hi h
    refine br_f (nI_ge (by omega) (by omega)) ⟨vp_in_nI (by omega) (by decide), nm_r (e' := upd pl' i (-1)) (ps_wr rfl (by omega) rfl) (nm_r (nI_1 i) (ih (i + 1) _ (by omega) (fun q hq => ?_)))⟩
    by_cases e : q = i
    · subst e
      exact pk_us
    · rw [pk_un e]
      exact h q (by omega)
theorem yy_from {post : Int64 → SY → Prop} {n s R : Nat} {g : Nat → Nat → Nat} (hn : n ≤ 5) (hs : s < n) (hI : ps_YI im n g) (hR : ps_rn n g s = some R) (KK : ∀ od' pl', post (lN (ps_cv (4 * n) R)) (nI L, nI c, mn, w, le, ra, fi, se, pm, im, ot, od', pl', kn, an, tb, ks)) : wpY_from post (nI L, nI c, mn, w, le, ra, fi, se, pm, im, ot, od, pl, kn, an, tb, ks) (nI s) (nI n) :=
  ⟨n + 1, yy_fr2 hn hs hI hR KK n 0 pl (by omega) (fun q hq => by omega)⟩
end
section
variable {L c : Nat} {mn : Int32} {w le ra fi se pm im ot od pl kn an tb : Nat → Int32} {ks : Nat → Int64}
variable {wn ln : Nat → Nat} {rl : Nat → Nat → Nat}
theorem yy_even41 {post : Int32 → SY → Prop} {J : Int32 → Int32 → Int32 → Int32 → Int32 → (Nat → Int32) → (Nat → Int32) → (Nat → Int32) → (Nat → Int32) → (Nat → Int32) → (Nat → Int32) → (Nat → Int32) → (Nat → Int32) → (Nat → Int32) → (Nat → Int32) → (Nat → Int32) → (Nat → Int32) → (Nat → Int32) → (Nat → Int64) → Prop} {n k K C : Nat} (hn : n ≤ 5) (hk4 : k < 461) (hK : ps_D5 (4 * n) K) (hI : ps_YI im n (ps_gk n K)) (hs : ∀ s, s < n → ∃ R, ps_rn n (ps_gk n K) s = some R ∧ ps_D5 (4 * n) R) (hks : ks (461 * n + k) = lN (ps_cv (4 * n) K)) (k0 : ps_al n K = false → ∀ od' pl', J (nI C) (nI (k + 1)) (nI L) (nI c) mn w le ra fi se pm im ot od' pl' kn an tb ks) (k1 : ps_al n K = true → ∀ od' pl', J (nI (C + 1)) (nI (k + 1)) (nI L) (nI c) mn w le ra fi se pm im ot od' pl' kn an tb ks) : ∀ d s od' pl', s + d = n → 0 < s → wY_even_41 post J (nI n) (nI C) (nI k) (d + 1) (ps_b (ps_as n K s)) (nI s) (nI L) (nI c) mn w le ra fi se pm im ot od' pl' kn an tb ks := by
  have ev : ks ((461 * nI n) + nI k).toNatClampNeg = lN (ps_cv (4 * n) K) := ps_rdL (ps_46x n k) (by omega) hks
  have b2 : ps_cv (4 * n) K < 2 ^ 63 := Nat.lt_trans (ps_K5 hn hK) (by decide)
  intro d
  induction d with
  | zero =>
    intro s od' pl' hd h0
    obtain rfl : s = n := by omega
    refine br_t (nI_le (by omega) (by omega)) ?_
    cases e : ps_as s K s with
    | false => exact br_t rfl (nm_r (nI_1 k) (k0 e od' pl'))
    | true => exact br_f (by decide) (nm_r (nI_1 C) (nm_r (nI_1 k) (k1 e od' pl')))
  | succ d ih =>
    intro s od' pl' hd h0
    refine br_f (nI_ge (by omega) (by omega)) ?_
    cases e : ps_as n K s with
    | false =>
      have hq := ih (s + 1) od' pl' (by omega) (by omega)
      have e2 : ps_as n K (s + 1) = false := decide_eq_false (fun hh => of_decide_eq_false e (fun q h1 h2 => hh q (by omega) h2))
      rw [e2] at hq
      exact br_t rfl (nm_r (nI_1 s) hq)
    | true =>
      have e := of_decide_eq_true e
      obtain ⟨R, hR, hD⟩ := hs s (by omega)
      have b1 : ps_cv (4 * n) R < 2 ^ 63 := Nat.lt_trans (ps_K5 hn hD) (by decide)
      refine br_f (by decide) (yy_from hn (by omega) hI hR (fun od2 pl2 => ⟨pk_in (461 * n + k) 2766 (by omega) (ps_46x n k), ?_⟩))
      have hq := ih (s + 1) od2 pl2 (by omega) (by omega)
      rw [ev]
      by_cases z : R = K
      · have e2 : ps_as n K (s + 1) = true := decide_eq_true (fun q h1 h2 => by
          by_cases w : q = s
          · rw [w, hR, z]
          · exact e q (by omega) h2)
        rw [e2] at hq
        exact br_t (by rw [z]) (nm_r (nI_1 s) hq)
      · have e2 : ps_as n K (s + 1) = false := decide_eq_false (fun hh => z (Option.some.inj (hR.symm.trans (hh s (by omega) h0))))
        rw [e2] at hq
        exact br_f (fun q => z ((ps_cv_eq hD hK).mpr ((pk_lEQ b1 b2).mp q))) (nm_r (nI_1 s) hq)
theorem yy_even19 {post : Int32 → SY → Prop} {n : Nat} {T : List Nat} (h0 : 0 < n) (hn : n ≤ 5) (hT : T.length ≤ 461) (htb : tb n = nI T.length) (hF : ∀ k, k < T.length → ps_Fa n (T.getD k 0) ∧ ∀ s, s < n → ∃ R, ps_rn n (ps_gk n (T.getD k 0)) s = some R ∧ ps_D5 (4 * n) R) (hA : ∀ k, k < T.length → ks (461 * n + k) = lN (ps_cv (4 * n) (T.getD k 0))) (K : ∀ im' od' pl', post (nI (ps_cn (fun k => ps_al n (T.getD k 0)) T.length)) (nI L, nI c, mn, w, le, ra, fi, se, pm, im', ot, od', pl', kn, an, tb, ks)) : ∀ d k im' od' pl', k + d = T.length → wY_even_19 post (nI n) (d + 1) (nI (ps_cn (fun k => ps_al n (T.getD k 0)) k)) (nI k) (nI L) (nI c) mn w le ra fi se pm im' ot od' pl' kn an tb ks := by
  have vn : vp_in (nI n) 6 := vp_in_nI (by omega) (by decide)
  have et : tb (nI n).toNatClampNeg = nI T.length := ps_rd rfl (by omega) htb
  intro d
  induction d with
  | zero =>
    intro k im' od' pl' hk
    obtain rfl : k = T.length := by omega
    exact ⟨vn, br_t (by rw [et]; exact nI_le (by omega) (by omega)) (K im' od' pl')⟩
  | succ d ih =>
    intro k im' od' pl' hk
    have hkT : k < T.length := by omega
    have f := hF k hkT
    refine ⟨vn, br_f (by rw [et]; exact nI_ge hkT (by omega)) (yy_spread hn (by omega) (hA k hkT) f.1.2.2 (fun im2 hI => ⟨n - 1 + 1, yy_even41 (K := T.getD k 0) hn (by omega) f.1.2.2 hI f.2 (hA k hkT) (fun e od2 pl2 => ?_) (fun e od2 pl2 => ?_) (n - 1) 1 od' pl' (by omega) (by omega)⟩))⟩
    · have hq := ih (k + 1) im2 od2 pl2 (by omega)
      rw [ps_cn, e] at hq
      exact hq
    · have hq := ih (k + 1) im2 od2 pl2 (by omega)
      rw [ps_cn, e] at hq
      exact hq
theorem yy_even_b {post : Int32 → SY → Prop} {v : Int32} (h : v < 1 ∨ 5 < v) (k : post (-1) (nI L, nI c, mn, w, le, ra, fi, se, pm, im, ot, od, pl, kn, an, tb, ks)) : wpY_even post (nI L, nI c, mn, w, le, ra, fi, se, pm, im, ot, od, pl, kn, an, tb, ks) v := by
  unfold wpY_even
  dsimp only
  exact yy_bad_b h (br_f (by decide) k)
theorem yy_even_o {post : Int32 → SY → Prop} {n : Nat} (h0 : 0 < n) (hn : n ≤ 5) (hL : L ≤ 8) (hc : c ≤ 4) (hw : ps_Wo wn w) (hr : ps_Ru c ln rl ra le) (hY : ps_YC c ln rl kn an tb ks) (K : ∀ u', yy_OK L c wn ln rl u' → post (nI (ps_cn (fun k => ps_al n ((ps_TL n (ps_G n c ln rl)).getD k 0)) (ps_TL n (ps_G n c ln rl)).length)) u') : wpY_even post (nI L, nI c, mn, w, le, ra, fi, se, pm, im, ot, od, pl, kn, an, tb, ks) (nI n) := by
  unfold wpY_even
  dsimp only
  exact yy_bad_o h0 hn (br_t rfl (yy_work h0 hn hr hc hY (fun mn' pm' im' kn' an' tb' ks' hY' hk => ⟨(ps_TL n (ps_G n c ln rl)).length + 1, yy_even19 h0 hn (ps_TL_len h0 hn) (ps_YC_at hY' h0 hn hk).2.1 (fun k hk => ps_TLFa h0 hn hk) (fun k hk2 => ps_ks (ps_YC_at hY' h0 hn hk).2.2 hk2) (fun im2 od2 pl2 => K _ (yy_mk hL hc hw hr hY')) (ps_TL n (ps_G n c ln rl)).length 0 im' od pl (by omega)⟩)))
theorem yy_kinds41 {post : Int32 → SY → Prop} {J : Int32 → Int32 → Int32 → Int32 → Int32 → (Nat → Int32) → (Nat → Int32) → (Nat → Int32) → (Nat → Int32) → (Nat → Int32) → (Nat → Int32) → (Nat → Int32) → (Nat → Int32) → (Nat → Int32) → (Nat → Int32) → (Nat → Int32) → (Nat → Int32) → (Nat → Int32) → (Nat → Int64) → Prop} {n k K C : Nat} (hn : n ≤ 5) (hk4 : k < 461) (hK : ps_D5 (4 * n) K) (hI : ps_YI im n (ps_gk n K)) (hs : ∀ s, s < n → ∃ R, ps_rn n (ps_gk n K) s = some R ∧ ps_D5 (4 * n) R) (hks : ks (461 * n + k) = lN (ps_cv (4 * n) K)) (k0 : ps_fi n K = false → ∀ od' pl', J (nI C) (nI (k + 1)) (nI L) (nI c) mn w le ra fi se pm im ot od' pl' kn an tb ks) (k1 : ps_fi n K = true → ∀ od' pl', J (nI (C + 1)) (nI (k + 1)) (nI L) (nI c) mn w le ra fi se pm im ot od' pl' kn an tb ks) : ∀ d s od' pl', s + d = n → 0 < s → wY_kinds_41 post J (nI n) (nI C) (nI k) (d + 1) (ps_b (ps_fs n K s)) (nI s) (nI L) (nI c) mn w le ra fi se pm im ot od' pl' kn an tb ks := by
  have ev : ks ((461 * nI n) + nI k).toNatClampNeg = lN (ps_cv (4 * n) K) := ps_rdL (ps_46x n k) (by omega) hks
  have b2 : ps_cv (4 * n) K < 2 ^ 63 := Nat.lt_trans (ps_K5 hn hK) (by decide)
  intro d
  induction d with
  | zero =>
    intro s od' pl' hd h0
    obtain rfl : s = n := by omega
    refine br_t (nI_le (by omega) (by omega)) ?_
    cases e : ps_fs s K s with
    | false => exact br_t rfl (nm_r (nI_1 k) (k0 e od' pl'))
    | true => exact br_f (by decide) (nm_r (nI_1 C) (nm_r (nI_1 k) (k1 e od' pl')))
  | succ d ih =>
    intro s od' pl' hd h0
    refine br_f (nI_ge (by omega) (by omega)) ?_
    cases e : ps_fs n K s with
    | false =>
      have hq := ih (s + 1) od' pl' (by omega) (by omega)
      have e2 : ps_fs n K (s + 1) = false := decide_eq_false (fun hh => of_decide_eq_false e (fun q h1 h2 => hh q (by omega) h2))
      rw [e2] at hq
      exact br_t rfl (nm_r (nI_1 s) hq)
    | true =>
      have e := of_decide_eq_true e
      obtain ⟨R, hR, hD⟩ := hs s (by omega)
      have b1 : ps_cv (4 * n) R < 2 ^ 63 := Nat.lt_trans (ps_K5 hn hD) (by decide)
      refine br_f (by decide) (yy_from hn (by omega) hI hR (fun od2 pl2 => ⟨pk_in (461 * n + k) 2766 (by omega) (ps_46x n k), ?_⟩))
      have hq := ih (s + 1) od2 pl2 (by omega) (by omega)
      rw [ev]
      have el : ps_ltO n K s = decide (R < K) := by rw [ps_ltO, hR]
      have hlt := ps_cv_lt (4 * n) R K hD hK
      by_cases z : R < K
      · have e2 : ps_fs n K (s + 1) = false := decide_eq_false (fun hh => by
          have q := hh s (by omega) h0
          rw [el] at q
          exact absurd z (of_decide_eq_false q))
        rw [e2] at hq
        exact br_t ((pk_lLT b1 b2).mpr (hlt.mp z)) (nm_r (nI_1 s) hq)
      · have e2 : ps_fs n K (s + 1) = true := decide_eq_true (fun q h1 h2 => by
          by_cases w : q = s
          · rw [w, el]
            exact decide_eq_false z
          · exact e q (by omega) h2)
        rw [e2] at hq
        exact br_f (fun q => z (hlt.mpr ((pk_lLT b1 b2).mp q))) (nm_r (nI_1 s) hq)
theorem yy_kinds19 {post : Int32 → SY → Prop} {n : Nat} {T : List Nat} (h0 : 0 < n) (hn : n ≤ 5) (hT : T.length ≤ 461) (htb : tb n = nI T.length) (hF : ∀ k, k < T.length → ps_Fa n (T.getD k 0) ∧ ∀ s, s < n → ∃ R, ps_rn n (ps_gk n (T.getD k 0)) s = some R ∧ ps_D5 (4 * n) R) (hA : ∀ k, k < T.length → ks (461 * n + k) = lN (ps_cv (4 * n) (T.getD k 0))) (K : ∀ im' od' pl', post (nI (ps_cn (fun k => ps_fi n (T.getD k 0)) T.length)) (nI L, nI c, mn, w, le, ra, fi, se, pm, im', ot, od', pl', kn, an, tb, ks)) : ∀ d k im' od' pl', k + d = T.length → wY_kinds_19 post (nI n) (d + 1) (nI (ps_cn (fun k => ps_fi n (T.getD k 0)) k)) (nI k) (nI L) (nI c) mn w le ra fi se pm im' ot od' pl' kn an tb ks := by
  have vn : vp_in (nI n) 6 := vp_in_nI (by omega) (by decide)
  have et : tb (nI n).toNatClampNeg = nI T.length := ps_rd rfl (by omega) htb
  intro d
  induction d with
  | zero =>
    intro k im' od' pl' hk
    obtain rfl : k = T.length := by omega
    exact ⟨vn, br_t (by rw [et]; exact nI_le (by omega) (by omega)) (K im' od' pl')⟩
  | succ d ih =>
    intro k im' od' pl' hk
    have hkT : k < T.length := by omega
    have f := hF k hkT
    refine ⟨vn, br_f (by rw [et]; exact nI_ge hkT (by omega)) (yy_spread hn (by omega) (hA k hkT) f.1.2.2 (fun im2 hI => ⟨n - 1 + 1, yy_kinds41 (K := T.getD k 0) hn (by omega) f.1.2.2 hI f.2 (hA k hkT) (fun e od2 pl2 => ?_) (fun e od2 pl2 => ?_) (n - 1) 1 od' pl' (by omega) (by omega)⟩))⟩
    · have hq := ih (k + 1) im2 od2 pl2 (by omega)
      rw [ps_cn, e] at hq
      exact hq
    · have hq := ih (k + 1) im2 od2 pl2 (by omega)
      rw [ps_cn, e] at hq
      exact hq
theorem yy_kinds_b {post : Int32 → SY → Prop} {v : Int32} (h : v < 1 ∨ 5 < v) (k : post (-1) (nI L, nI c, mn, w, le, ra, fi, se, pm, im, ot, od, pl, kn, an, tb, ks)) : wpY_kinds post (nI L, nI c, mn, w, le, ra, fi, se, pm, im, ot, od, pl, kn, an, tb, ks) v := by
  unfold wpY_kinds
  dsimp only
  exact yy_bad_b h (br_f (by decide) k)
theorem yy_kinds_o {post : Int32 → SY → Prop} {n : Nat} (h0 : 0 < n) (hn : n ≤ 5) (hL : L ≤ 8) (hc : c ≤ 4) (hw : ps_Wo wn w) (hr : ps_Ru c ln rl ra le) (hY : ps_YC c ln rl kn an tb ks) (K : ∀ u', yy_OK L c wn ln rl u' → post (nI (ps_cn (fun k => ps_fi n ((ps_TL n (ps_G n c ln rl)).getD k 0)) (ps_TL n (ps_G n c ln rl)).length)) u') : wpY_kinds post (nI L, nI c, mn, w, le, ra, fi, se, pm, im, ot, od, pl, kn, an, tb, ks) (nI n) := by
  unfold wpY_kinds
  dsimp only
  exact yy_bad_o h0 hn (br_t rfl (yy_work h0 hn hr hc hY (fun mn' pm' im' kn' an' tb' ks' hY' hk => ⟨(ps_TL n (ps_G n c ln rl)).length + 1, yy_kinds19 h0 hn (ps_TL_len h0 hn) (ps_YC_at hY' h0 hn hk).2.1 (fun k hk => ps_TLFa h0 hn hk) (fun k hk2 => ps_ks (ps_YC_at hY' h0 hn hk).2.2 hk2) (fun im2 od2 pl2 => K _ (yy_mk hL hc hw hr hY')) (ps_TL n (ps_G n c ln rl)).length 0 im' od pl (by omega)⟩)))
end
end
section
/-! the reference: the word in a table; period, fixing, still; cyclic -/
section
variable {L c : Nat} {mn : Int32} {w le ra fi se pm im ot od pl kn an tb : Nat → Int32} {ks : Nat → Int64}
variable {wn ln : Nat → Nat} {rl : Nat → Nat → Nat}
theorem yy_go4 {post : Int32 → Prop} {n p : Nat} {g : Nat → Nat → Nat} (hn : n ≤ 5) (hI : ps_YI im n g) (hg : ps_Gd n g) (hL : L ≤ 8) (hw : ps_Wo wn w) (hp : p < n) (K : post (nI (ps_wk g wn L p))) : ∀ d i, i + d = L → wY_go_4 post (nI L) (nI c) mn w le ra fi se pm im ot od pl kn an tb ks (d + 1) (nI (ps_wk g wn i p)) (nI i) := by
  intro d
  induction d with
  | zero =>
    intro i hi
    obtain rfl : i = L := by omega
    exact br_t (nI_le (by omega) (by omega)) K
  | succ d ih =>
    intro i hi
    have h4 := (hw i).1
    have hat := ps_wk_lt (r := wn) hg i p (fun j hj => (hw j).1) hp
    have er : w (nI i).toNatClampNeg = nI (wn i) := ps_rd rfl (by omega) (hw i).2
    have ex : (5 * w (nI i).toNatClampNeg) + nI (ps_wk g wn i p) = nI (5 * wn i + ps_wk g wn i p) := by rw [er]; exact ps_5x _ _
    exact br_f (nI_ge (by omega) (by omega)) ⟨vp_in_nI (by omega) (by decide), ⟨pk_in (5 * wn i + ps_wk g wn i p) 20 (by omega) ex, nm_r (e' := nI (ps_wk g wn (i + 1) p)) (ps_rd ex (by omega) (hI _ h4 _ hat)) (nm_r (nI_1 i) (ih (i + 1) (by omega)))⟩⟩
theorem yy_go {post : Int32 → Prop} {n p : Nat} {g : Nat → Nat → Nat} (hn : n ≤ 5) (hI : ps_YI im n g) (hg : ps_Gd n g) (hL : L ≤ 8) (hw : ps_Wo wn w) (hp : p < n) (K : post (nI (ps_wk g wn L p))) : wpY_go post (nI L, nI c, mn, w, le, ra, fi, se, pm, im, ot, od, pl, kn, an, tb, ks) (nI p) := ⟨L + 1, yy_go4 hn hI hg hL hw hp K L 0 (by omega)⟩
theorem yy_per37 {post : Int32 → SY → Prop} {n m : Nat} {g : Nat → Nat → Nat} (h0 : 0 < n) (hn : n ≤ 5) (hI : ps_YI im n g) (hg : ps_Gd n g) (hL : L ≤ 8) (hw : ps_Wo wn w) (hz : ps_it (ps_wk g wn L) m = 0) (hl : ∀ j, 1 ≤ j → j < m → ps_it (ps_wk g wn L) j ≠ 0) (K : post (nI m) (nI L, nI c, mn, w, le, ra, fi, se, pm, im, ot, od, pl, kn, an, tb, ks)) : ∀ d t, t + d = m → 1 ≤ t → wY_period_37 post (nI L) (nI c) mn w le ra fi se pm im ot od pl kn an tb ks (d + 1) (nI t) (nI (ps_it (ps_wk g wn L) t)) := by
  intro d
  induction d with
  | zero =>
    intro t ht h1
    obtain rfl : t = m := by omega
    exact br_t (by rw [hz]; rfl) K
  | succ d ih =>
    intro t ht h1
    have hlt : ps_it (ps_wk g wn L) t < n := ps_it_lt h0 (fun p hp => ps_wk_lt hg L p (fun j hj => (hw j).1) hp) t
    have hne := hl t h1 (by omega)
    exact br_f (nI_ne0 (by omega) (by omega)) (yy_go hn hI hg hL hw hlt (nm_r (nI_1 t) (ih (t + 1) (by omega) (by omega))))
theorem yy_period_b {post : Int32 → SY → Prop} {v v2 : Int32} (h : v < 1 ∨ 5 < v) (k : post (-1) (nI L, nI c, mn, w, le, ra, fi, se, pm, im, ot, od, pl, kn, an, tb, ks)) : wpY_period post (nI L, nI c, mn, w, le, ra, fi, se, pm, im, ot, od, pl, kn, an, tb, ks) v v2 := by
  unfold wpY_period
  dsimp only
  exact yy_bad_b h (br_f (by decide) k)
theorem yy_period_n {post : Int32 → SY → Prop} {n : Nat} {v2 : Int32} (h0 : 0 < n) (hn : n ≤ 5) (hL : L ≤ 8) (hc : c ≤ 4) (hw : ps_Wo wn w) (hr : ps_Ru c ln rl ra le) (hY : ps_YC c ln rl kn an tb ks) (h : v2 < 0 ∨ nI (ps_TL n (ps_G n c ln rl)).length ≤ v2) (K : ∀ u', yy_OK L c wn ln rl u' → post (-4) u') : wpY_period post (nI L, nI c, mn, w, le, ra, fi, se, pm, im, ot, od, pl, kn, an, tb, ks) (nI n) v2 := by
  unfold wpY_period
  dsimp only
  refine yy_bad_o h0 hn (br_t rfl (yy_noT_b h0 hn hL hc hw hr hY h (fun u' hu => ?_)))
  obtain ⟨mn, w, le, ra, fi, se, pm, im, ot, od, pl, kn, an, tb, ks, rfl, r⟩ := hu
  exact br_f (by decide) (K _ ⟨mn, w, le, ra, fi, se, pm, im, ot, od, pl, kn, an, tb, ks, rfl, r⟩)
theorem yy_period_o {post : Int32 → SY → Prop} {n k m : Nat} (h0 : 0 < n) (hn : n ≤ 5) (hL : L ≤ 8) (hc : c ≤ 4) (hw : ps_Wo wn w) (hr : ps_Ru c ln rl ra le) (hY : ps_YC c ln rl kn an tb ks) (h : k < (ps_TL n (ps_G n c ln rl)).length) (h1 : 1 ≤ m) (hz : ps_it (ps_wk (ps_gk n ((ps_TL n (ps_G n c ln rl)).getD k 0)) wn L) m = 0) (hl : ∀ j, 1 ≤ j → j < m → ps_it (ps_wk (ps_gk n ((ps_TL n (ps_G n c ln rl)).getD k 0)) wn L) j ≠ 0) (K : ∀ u', yy_OK L c wn ln rl u' → post (nI m) u') : wpY_period post (nI L, nI c, mn, w, le, ra, fi, se, pm, im, ot, od, pl, kn, an, tb, ks) (nI n) (nI k) := by
  have hT := ps_TL_len (c := c) (ln := ln) (rl := rl) h0 hn
  have hF := (ps_TLFa h0 hn h).1
  unfold wpY_period
  dsimp only
  exact yy_bad_o h0 hn (br_t rfl (yy_noT_o h0 hn hr hc hY h (fun mn' pm' im' kn' an' tb' ks' hY' hk => br_t rfl (yy_spread hn (by omega) (ps_ks (ps_YC_at hY' h0 hn hk).2.2 h) hF.2.2 (fun im2 hI => yy_go (p := 0) hn hI hF.1 hL hw h0 ⟨m - 1 + 1, yy_per37 h0 hn hI hF.1 hL hw hz hl (K _ (yy_mk hL hc hw hr hY')) (m - 1) 1 (by omega) (by omega)⟩)))))
theorem yy_fix19 {post : Int32 → SY → Prop} {n : Nat} {T : List Nat} (h0 : 0 < n) (hn : n ≤ 5) (hL : L ≤ 8) (hw : ps_Wo wn w) (hT : T.length ≤ 461) (htb : tb n = nI T.length) (hF : ∀ k, k < T.length → ps_Fa n (T.getD k 0)) (hA : ∀ k, k < T.length → ks (461 * n + k) = lN (ps_cv (4 * n) (T.getD k 0))) (K : ∀ im', post (nI (ps_cn (fun k => ps_fx wn L n (T.getD k 0)) T.length)) (nI L, nI c, mn, w, le, ra, fi, se, pm, im', ot, od, pl, kn, an, tb, ks)) : ∀ d k im', k + d = T.length → wY_fixing_19 post (nI n) (d + 1) (nI (ps_cn (fun k => ps_fx wn L n (T.getD k 0)) k)) (nI k) (nI L) (nI c) mn w le ra fi se pm im' ot od pl kn an tb ks := by
  have vn : vp_in (nI n) 6 := vp_in_nI (by omega) (by decide)
  have et : tb (nI n).toNatClampNeg = nI T.length := ps_rd rfl (by omega) htb
  intro d
  induction d with
  | zero =>
    intro k im' hk
    obtain rfl : k = T.length := by omega
    exact ⟨vn, br_t (by rw [et]; exact nI_le (by omega) (by omega)) (K im')⟩
  | succ d ih =>
    intro k im' hk
    have hkT : k < T.length := by omega
    have f := hF k hkT
    refine ⟨vn, br_f (by rw [et]; exact nI_ge hkT (by omega)) (yy_spread hn (by omega) (hA k hkT) f.2.2 (fun im2 hI => yy_go (p := 0) hn hI f.1 hL hw h0 ?_))⟩
    have hq := ih (k + 1) im2 (by omega)
    have hlt := ps_wk_lt (r := wn) f.1 L 0 (fun j hj => (hw j).1) h0
    rw [ps_cn] at hq
    by_cases z : ps_wk (ps_gk n (T.getD k 0)) wn L 0 = 0
    · have e : ps_fx wn L n (T.getD k 0) = true := decide_eq_true z
      rw [e] at hq
      exact br_t (by rw [z]; rfl) (nm_r (nI_1 _) (nm_r (nI_1 k) hq))
    · have e : ps_fx wn L n (T.getD k 0) = false := decide_eq_false z
      rw [e] at hq
      exact br_f (nI_ne0 (by omega) (by omega)) (nm_r (nI_1 k) hq)
theorem yy_fixing_b {post : Int32 → SY → Prop} {v : Int32} (h : v < 1 ∨ 5 < v) (k : post (-1) (nI L, nI c, mn, w, le, ra, fi, se, pm, im, ot, od, pl, kn, an, tb, ks)) : wpY_fixing post (nI L, nI c, mn, w, le, ra, fi, se, pm, im, ot, od, pl, kn, an, tb, ks) v := by
  unfold wpY_fixing
  dsimp only
  exact yy_bad_b h (br_f (by decide) k)
theorem yy_fixing_o {post : Int32 → SY → Prop} {n : Nat} (h0 : 0 < n) (hn : n ≤ 5) (hL : L ≤ 8) (hc : c ≤ 4) (hw : ps_Wo wn w) (hr : ps_Ru c ln rl ra le) (hY : ps_YC c ln rl kn an tb ks) (K : ∀ u', yy_OK L c wn ln rl u' → post (nI (ps_cn (fun k => ps_fx wn L n ((ps_TL n (ps_G n c ln rl)).getD k 0)) (ps_TL n (ps_G n c ln rl)).length)) u') : wpY_fixing post (nI L, nI c, mn, w, le, ra, fi, se, pm, im, ot, od, pl, kn, an, tb, ks) (nI n) := by
  unfold wpY_fixing
  dsimp only
  exact yy_bad_o h0 hn (br_t rfl (yy_work h0 hn hr hc hY (fun mn' pm' im' kn' an' tb' ks' hY' hk => ⟨(ps_TL n (ps_G n c ln rl)).length + 1, yy_fix19 h0 hn hL hw (ps_TL_len h0 hn) (ps_YC_at hY' h0 hn hk).2.1 (fun k hk => (ps_TLFa h0 hn hk).1) (fun k hk2 => ps_ks (ps_YC_at hY' h0 hn hk).2.2 hk2) (fun im2 => K _ (yy_mk hL hc hw hr hY')) (ps_TL n (ps_G n c ln rl)).length 0 im' (by omega)⟩)))
theorem yy_st32 {post : Int32 → SY → Prop} {J2 J14 : Int32 → Int32 → Int32 → Int32 → (Nat → Int32) → (Nat → Int32) → (Nat → Int32) → (Nat → Int32) → (Nat → Int32) → (Nat → Int32) → (Nat → Int32) → (Nat → Int32) → (Nat → Int32) → (Nat → Int32) → (Nat → Int32) → (Nat → Int32) → (Nat → Int32) → (Nat → Int64) → Prop} {n k K : Nat} (hn : n ≤ 5) (hI : ps_YI im n (ps_gk n K)) (hg : ps_Gd n (ps_gk n K)) (hL : L ≤ 8) (hw : ps_Wo wn w) (k0 : ps_wa wn L n K = false → post 0 (nI L, nI c, mn, w, le, ra, fi, se, pm, im, ot, od, pl, kn, an, tb, ks)) (k1 : ps_wa wn L n K = true → J14 (nI (k + 1)) (nI L) (nI c) mn w le ra fi se pm im ot od pl kn an tb ks) : ∀ d p, p + d = n → (∀ q, q < p → ps_wk (ps_gk n K) wn L q = q) → wY_still_32 post J2 J14 (nI n) (nI k) (nI L) (nI c) mn w le ra fi se pm im ot od pl kn an tb ks (d + 1) (nI p) := by
  intro d
  induction d with
  | zero =>
    intro p hp h
    obtain rfl : p = n := by omega
    exact br_t (nI_le (by omega) (by omega)) (nm_r (nI_1 k) (k1 (decide_eq_true h)))
  | succ d ih =>
    intro p hp h
    have hlt := ps_wk_lt (r := wn) hg L p (fun j hj => (hw j).1) (by omega)
    refine br_f (nI_ge (by omega) (by omega)) (yy_go hn hI hg hL hw (by omega) ?_)
    by_cases z : ps_wk (ps_gk n K) wn L p = p
    · exact br_t (by rw [z]) (nm_r (nI_1 p) (ih (p + 1) (by omega) (lt_s h z)))
    · exact br_f (fun q => z ((nI_eq (by omega) (by omega)).mp q)) (k0 (decide_eq_false (fun hh => z (hh p (by omega)))))
theorem yy_st14 {post : Int32 → SY → Prop} {J : Int32 → Int32 → Int32 → Int32 → (Nat → Int32) → (Nat → Int32) → (Nat → Int32) → (Nat → Int32) → (Nat → Int32) → (Nat → Int32) → (Nat → Int32) → (Nat → Int32) → (Nat → Int32) → (Nat → Int32) → (Nat → Int32) → (Nat → Int32) → (Nat → Int32) → (Nat → Int64) → Prop} {n : Nat} {T : List Nat} (h0 : 0 < n) (hn : n ≤ 5) (hL : L ≤ 8) (hw : ps_Wo wn w) (hT : T.length ≤ 461) (htb : tb n = nI T.length) (hF : ∀ k, k < T.length → ps_Fa n (T.getD k 0)) (hA : ∀ k, k < T.length → ks (461 * n + k) = lN (ps_cv (4 * n) (T.getD k 0))) (k0 : ∀ im', (∃ k, k < T.length ∧ ps_wa wn L n (T.getD k 0) = false) → post 0 (nI L, nI c, mn, w, le, ra, fi, se, pm, im', ot, od, pl, kn, an, tb, ks)) (k1 : ∀ im', (∀ k, k < T.length → ps_wa wn L n (T.getD k 0) = true) → J (nI (n + 1)) (nI L) (nI c) mn w le ra fi se pm im' ot od pl kn an tb ks) : ∀ d k im', k + d = T.length → (∀ q, q < k → ps_wa wn L n (T.getD q 0) = true) → wY_still_14 post J (nI n) (d + 1) (nI k) (nI L) (nI c) mn w le ra fi se pm im' ot od pl kn an tb ks := by
  have vn : vp_in (nI n) 6 := vp_in_nI (by omega) (by decide)
  have et : tb (nI n).toNatClampNeg = nI T.length := ps_rd rfl (by omega) htb
  intro d
  induction d with
  | zero =>
    intro k im' hk h
    obtain rfl : k = T.length := by omega
    exact ⟨vn, br_t (by rw [et]; exact nI_le (by omega) (by omega)) (nm_r (nI_1 n) (k1 im' h))⟩
  | succ d ih =>
    intro k im' hk h
    have hkT : k < T.length := by omega
    have f := hF k hkT
    exact ⟨vn, br_f (by rw [et]; exact nI_ge hkT (by omega)) (yy_spread hn (by omega) (hA k hkT) f.2.2 (fun im2 hI => ⟨n + 1, yy_st32 hn hI f.1 hL hw (fun e => k0 im2 ⟨k, hkT, e⟩) (fun e => ih (k + 1) im2 (by omega) (lt_s h e)) n 0 (by omega) (fun q hq => by omega)⟩))⟩
theorem yy_st2 {post : Int32 → SY → Prop} (hL : L ≤ 8) (hc : c ≤ 4) (hw : ps_Wo wn w) (hr : ps_Ru c ln rl ra le) (K : ∀ u', yy_OK L c wn ln rl u' → post (ps_b (ps_sb c ln rl wn L)) u') : ∀ d n mn' pm' im' kn' an' tb' ks', n + d = 6 → 0 < n → ps_YC c ln rl kn' an' tb' ks' → (∀ m, m < n → 0 < m → ps_wq wn L m (ps_TL m (ps_G m c ln rl)) = true) → wY_still_2 post (d + 1) (nI n) (nI L) (nI c) mn' w le ra fi se pm' im' ot od pl kn' an' tb' ks' := by
  intro d
  induction d with
  | zero =>
    intro n mn' pm' im' kn' an' tb' ks' hn h0 hY h
    obtain rfl : n = 6 := by omega
    have e : ps_sb c ln rl wn L = true := decide_eq_true h
    rw [e] at K
    exact br_t (nI_lt (a := 5) (b := 6) (by decide) (by decide)) (K _ (yy_mk hL hc hw hr hY))
  | succ d ih =>
    intro n mn' pm' im' kn' an' tb' ks' hn h0 hY h
    refine br_f (nI_nlt (a := 5) (by omega) (by decide)) (yy_work h0 (by omega) hr hc hY (fun mn2 pm2 im2 kn2 an2 tb2 ks2 hY2 hk => ⟨(ps_TL n (ps_G n c ln rl)).length + 1, yy_st14 h0 (by omega) hL hw (ps_TL_len h0 (by omega)) (ps_YC_at hY2 h0 (by omega) hk).2.1 (fun k hk => (ps_TLFa h0 (by omega) hk).1) (fun k hk2 => ps_ks (ps_YC_at hY2 h0 (by omega) hk).2.2 hk2) (fun im3 hx => ?_) (fun im3 hx => ih (n + 1) mn2 pm2 im3 kn2 an2 tb2 ks2 (by omega) (by omega) hY2 (fun m h1 h2 => ?_)) (ps_TL n (ps_G n c ln rl)).length 0 im2 (by omega) (fun q hq => by omega)⟩))
    · obtain ⟨k, hk, hf⟩ := hx
      have e : ps_sb c ln rl wn L = false := decide_eq_false (fun hh => by
        have q := of_decide_eq_true (hh n (by omega) h0) k hk
        rw [hf] at q
        cases q)
      rw [e] at K
      exact K _ (yy_mk hL hc hw hr hY2)
    · by_cases e : m = n
      · subst e
        exact decide_eq_true hx
      · exact h m (by omega) h2
theorem yy_still {post : Int32 → SY → Prop} (hL : L ≤ 8) (hc : c ≤ 4) (hw : ps_Wo wn w) (hr : ps_Ru c ln rl ra le) (hY : ps_YC c ln rl kn an tb ks) (K : ∀ u', yy_OK L c wn ln rl u' → post (ps_b (ps_sb c ln rl wn L)) u') : wpY_still post (nI L, nI c, mn, w, le, ra, fi, se, pm, im, ot, od, pl, kn, an, tb, ks) :=
  ⟨5 + 1, yy_st2 hL hc hw hr K 5 1 mn pm im kn an tb ks (by omega) (by omega) hY (fun m h1 h2 => by omega)⟩
end
end
section
/-! the reference: cyclic -/
section
variable {L c : Nat} {mn : Int32} {w le ra fi se pm im ot od pl kn an tb : Nat → Int32} {ks : Nat → Int64}
variable {wn ln : Nat → Nat} {rl : Nat → Nat → Nat}
theorem yy_sum5 {post : Int32 → Prop} {k gen : Nat} (hg : gen = 0 ∨ gen = 2) (hc : c ≤ 4) (hr : ps_Ru c ln rl ra le) (hk : k < c) (K : post (ps_iI (ps_F gen ln rl k))) : ∀ d i, i + d = ln k → wY_sum_5 post (nI k) (nI gen) (nI L) (nI c) mn w le ra fi se pm im ot od pl kn an tb ks (d + 1) (ps_iI (ps_su gen (rl k) i)) (nI i) := by
  have g := hr k hk
  have g1 := g.1
  have v4 : vp_in (nI k) 4 := vp_in_nI (by omega) (by decide)
  have el : le (nI k).toNatClampNeg = nI (ln k) := ps_rd rfl (by omega) g.2.1
  have hg2 : gen ≤ 2 := by omega
  intro d
  induction d with
  | zero =>
    intro i hi
    obtain rfl : i = ln k := by omega
    exact ⟨v4, br_t (by rw [el]; exact nI_le (by omega) (by omega)) K⟩
  | succ d ih =>
    intro i hi
    have hl := g.2.2 i (by omega)
    have h4 := hl.1
    have hq := ih (i + 1) (by omega)
    rw [ps_su] at hq
    have er : ra ((8 * nI k) + nI i).toNatClampNeg = nI (rl k i) := ps_rd (ps_8x k i) (by omega) hl.2
    have v := pk_in (8 * k + i) 32 (by omega) (ps_8x k i)
    refine ⟨v4, br_f (by rw [el]; exact nI_ge (by omega) (by omega)) ⟨v, ?_⟩⟩
    by_cases z : rl k i = gen
    · rw [if_pos z] at hq
      refine br_t (by rw [er, z]) (nm_r (ps_iI_inc _) ⟨v, br_f ?_ (nm_r (nI_1 i) hq)⟩)
      rw [er, nI_1]
      exact fun q => absurd ((nI_eq (by omega) (by omega)).mp q) (by omega)
    · rw [if_neg z] at hq
      refine br_f (by rw [er]; exact fun q => z ((nI_eq (by omega) (by omega)).mp q)) ?_
      by_cases z2 : rl k i = gen + 1
      · rw [if_pos z2] at hq
        exact ⟨v, br_t (by rw [er, nI_1, z2]) (nm_r (ps_iI_dec _) (nm_r (nI_1 i) hq))⟩
      · rw [if_neg z2] at hq
        refine ⟨v, br_f ?_ (nm_r (nI_1 i) hq)⟩
        rw [er, nI_1]
        exact fun q => z2 ((nI_eq (by omega) (by omega)).mp q)
theorem yy_sum {post : Int32 → Prop} {k gen : Nat} (hg : gen = 0 ∨ gen = 2) (hc : c ≤ 4) (hr : ps_Ru c ln rl ra le) (hk : k < c) (K : post (ps_iI (ps_F gen ln rl k))) : wpY_sum post (nI L, nI c, mn, w, le, ra, fi, se, pm, im, ot, od, pl, kn, an, tb, ks) (nI k) (nI gen) :=
  ⟨ln k + 1, yy_sum5 hg hc hr hk K (ln k) 0 (by omega)⟩
theorem yy_c191 {post : Int32 → SY → Prop} {J83 : Int32 → Int32 → Prop} {J109 : Int32 → Int32 → Int32 → Prop} {m y : Nat} {x2 x4 : Int32} {z s : Int} (h0 : 0 < m) (hm : m ≤ 1000) (KJ : J109 x2 (nI (ps_em (z + s) m)) (nI (y + 1))) : wY_cyclic_191 post J83 J109 (nI m) x2 (nI (ps_em s m)) x4 (nI (ps_em z m)) (nI y) (nI L) (nI c) mn w le ra fi se pm im ot od pl kn an tb ks := by
  have a := ps_em_lt (z := z) h0
  have b := ps_em_lt (z := s) h0
  rw [ps_em_add h0] at KJ
  refine nm_r (nI_add _ _) ?_
  by_cases h : m ≤ ps_em z m + ps_em s m
  · rw [if_pos h] at KJ
    exact br_f (nI_nlt h (by omega)) (nm_r (pk_sub h) (nm_r (nI_1 y) KJ))
  · rw [if_neg h] at KJ
    exact br_t (nI_lt (by omega) (by omega)) (nm_r (nI_1 y) KJ)
theorem yy_c130 {post : Int32 → SY → Prop} {J83 : Int32 → Int32 → Prop} {J109 : Int32 → Int32 → Int32 → Prop} {m x y C : Nat} {x3 x5 : Int32} (h0 : 0 < m) (hm : m ≤ 1000) (hx : x < m) (hy : y < m) (hc : c ≤ 4) (hr : ps_Ru c ln rl ra le) (hs : ∀ k, k < c → fi k = ps_iI (ps_F 0 ln rl k) ∧ se k = ps_iI (ps_F 2 ln rl k)) (k0 : ps_cp c m (ps_F 0 ln rl) (ps_F 2 ln rl) x y = false → wY_cyclic_191 post J83 J109 (nI m) (nI C) x3 (nI x) x5 (nI y) (nI L) (nI c) mn w le ra fi se pm im ot od pl kn an tb ks) (k1 : ps_cp c m (ps_F 0 ln rl) (ps_F 2 ln rl) x y = true → wY_cyclic_191 post J83 J109 (nI m) (nI (C + 1)) x3 (nI x) x5 (nI y) (nI L) (nI c) mn w le ra fi se pm im ot od pl kn an tb ks) : ∀ d k, k + d = c → wY_cyclic_130 post J83 J109 (nI m) (nI C) x3 (nI x) x5 (nI y) (nI L) (nI c) mn w le ra fi se pm im ot od pl kn an tb ks (d + 1) (ps_b (ps_cp k m (ps_F 0 ln rl) (ps_F 2 ln rl) x y)) (nI k) := by
  intro d
  induction d with
  | zero =>
    intro k hk
    obtain rfl : k = c := by omega
    refine br_t (nI_le (by omega) (by omega)) ?_
    cases e : ps_cp k m (ps_F 0 ln rl) (ps_F 2 ln rl) x y with
    | false => exact br_t rfl (k0 e)
    | true => exact br_f (by decide) (nm_r (nI_1 C) (k1 e))
  | succ d ih =>
    intro k hk
    have hkc : k < c := by omega
    refine br_f (nI_ge hkc (by omega)) ?_
    cases e : ps_cp k m (ps_F 0 ln rl) (ps_F 2 ln rl) x y with
    | false =>
      have e2 : ps_cp c m (ps_F 0 ln rl) (ps_F 2 ln rl) x y = false := decide_eq_false (fun hh => of_decide_eq_false e (fun q h1 => hh q (by omega)))
      exact br_t rfl (br_t rfl (k0 e2))
    | true =>
      have e := of_decide_eq_true e
      have v4 : vp_in (nI k) 4 := vp_in_nI (by omega) (by decide)
      have hsk := hs k hkc
      have e1 : fi (nI k).toNatClampNeg = ps_iI (ps_F 0 ln rl k) := ps_rd rfl (by omega) hsk.1
      have e2 : se (nI k).toNatClampNeg = ps_iI (ps_F 2 ln rl k) := ps_rd rfl (by omega) hsk.2
      have b := ps_xy_b hm hx hy (ps_F_b (gen := 0) hr hkc) (ps_F_b (gen := 2) hr hkc)
      have ez := ps_dv hm b.1 b.2
      rw [← ps_xFyS] at ez
      have hq := ih (k + 1) (by omega)
      refine br_f (by decide) ⟨v4, ⟨v4, ⟨nI_ne0 h0 (by omega), ?_⟩⟩⟩
      rw [e1, e2]
      by_cases z : (m : Int) ∣ (x : Int) * ps_F 0 ln rl k + (y : Int) * ps_F 2 ln rl k
      · have e3 : ps_cp (k + 1) m (ps_F 0 ln rl) (ps_F 2 ln rl) x y = true := decide_eq_true (lt_s e z)
        rw [e3] at hq
        exact br_t (ez.mpr z) (nm_r (nI_1 k) hq)
      · have e3 : ps_cp (k + 1) m (ps_F 0 ln rl) (ps_F 2 ln rl) x y = false := decide_eq_false (fun hh => z (hh k (by omega)))
        rw [e3] at hq
        exact br_f (fun q => z (ez.mp q)) (nm_r (nI_1 k) hq)
theorem yy_c109 {post : Int32 → SY → Prop} {J : Int32 → Int32 → Prop} {m x : Nat} (h0 : 0 < m) (hm : m ≤ 1000) (hx : x < m) (hc0 : 0 < c) (hc : c ≤ 4) (hr : ps_Ru c ln rl ra le) (hs : ∀ k, k < c → fi k = ps_iI (ps_F 0 ln rl k) ∧ se k = ps_iI (ps_F 2 ln rl k)) (KJ : J (nI (ps_cc (ps_cp c m (ps_F 0 ln rl) (ps_F 2 ln rl)) m (x + 1))) (nI (x + 1))) : ∀ d y, y + d = m → wY_cyclic_109 post J (nI m) (nI (ps_em (ps_F 2 ln rl 0) m)) (nI x) (nI L) (nI c) mn w le ra fi se pm im ot od pl kn an tb ks (d + 1) (nI (ps_cc (ps_cp c m (ps_F 0 ln rl) (ps_F 2 ln rl)) m x + ps_cn (ps_cp c m (ps_F 0 ln rl) (ps_F 2 ln rl) x) y)) (nI (ps_em ((x : Int) * ps_F 0 ln rl 0 + (y : Int) * ps_F 2 ln rl 0) m)) (nI y) := by
  intro d
  induction d with
  | zero =>
    intro y hy
    obtain rfl : y = m := by omega
    exact br_t (nI_le (by omega) (by omega)) (nm_r (nI_1 x) KJ)
  | succ d ih =>
    intro y hy
    have hq := ih (y + 1) (by omega)
    rw [ps_cn] at hq
    have ea : (x : Int) * ps_F 0 ln rl 0 + ((y + 1 : Nat) : Int) * ps_F 2 ln rl 0 = ((x : Int) * ps_F 0 ln rl 0 + (y : Int) * ps_F 2 ln rl 0) + ps_F 2 ln rl 0 := by
      rw [Int.natCast_add, Int.add_mul]
      omega
    rw [ea] at hq
    have hl := ps_em_lt (z := (x : Int) * ps_F 0 ln rl 0 + (y : Int) * ps_F 2 ln rl 0) h0
    have h130 := yy_c130 (post := post) (J83 := J) (J109 := wY_cyclic_109 post J (nI m) (nI (ps_em (ps_F 2 ln rl 0) m)) (nI x) (nI L) (nI c) mn w le ra fi se pm im ot od pl kn an tb ks (d + 1)) (L := L) (mn := mn) (w := w) (pm := pm) (im := im) (ot := ot) (od := od) (pl := pl) (kn := kn) (an := an) (tb := tb) (ks := ks) (C := ps_cc (ps_cp c m (ps_F 0 ln rl) (ps_F 2 ln rl)) m x + ps_cn (ps_cp c m (ps_F 0 ln rl) (ps_F 2 ln rl) x) y) (x3 := nI (ps_em (ps_F 2 ln rl 0) m)) (x5 := nI (ps_em ((x : Int) * ps_F 0 ln rl 0 + (y : Int) * ps_F 2 ln rl 0) m)) h0 hm hx (show y < m by omega) hc hr hs (fun e => yy_c191 h0 hm (by rw [e] at hq; exact hq)) (fun e => yy_c191 h0 hm (by rw [e] at hq; exact hq)) (c - 1) 1 (by omega)
    refine br_f (nI_ge (by omega) (by omega)) ?_
    by_cases z : ps_em ((x : Int) * ps_F 0 ln rl 0 + (y : Int) * ps_F 2 ln rl 0) m = 0
    · have e1 : ps_cp 1 m (ps_F 0 ln rl) (ps_F 2 ln rl) x y = true := decide_eq_true (fun q hq => by
        obtain rfl : q = 0 := by omega
        exact (ps_em_0 h0).mp z)
      rw [e1] at h130
      exact br_t (by rw [z]; rfl) ⟨_, h130⟩
    · have e1 : ps_cp 1 m (ps_F 0 ln rl) (ps_F 2 ln rl) x y = false := decide_eq_false (fun hh => z ((ps_em_0 h0).mpr (hh 0 (by omega))))
      rw [e1] at h130
      exact br_f (nI_ne0 (by omega) (by omega)) ⟨_, h130⟩
theorem yy_c83 {post : Int32 → SY → Prop} {m : Nat} (h0 : 0 < m) (hm : m ≤ 1000) (hc0 : 0 < c) (hc : c ≤ 4) (hr : ps_Ru c ln rl ra le) (hs : ∀ k, k < c → fi k = ps_iI (ps_F 0 ln rl k) ∧ se k = ps_iI (ps_F 2 ln rl k)) (K : post (nI (ps_cc (ps_cp c m (ps_F 0 ln rl) (ps_F 2 ln rl)) m m)) (nI L, nI c, mn, w, le, ra, fi, se, pm, im, ot, od, pl, kn, an, tb, ks)) : ∀ d x, x + d = m → wY_cyclic_83 post (nI m) (nI (ps_em (ps_F 2 ln rl 0) m)) (nI L) (nI c) mn w le ra fi se pm im ot od pl kn an tb ks (d + 1) (nI (ps_cc (ps_cp c m (ps_F 0 ln rl) (ps_F 2 ln rl)) m x)) (nI x) := by
  have nz : ¬ nI m = 0 := nI_ne0 h0 (by omega)
  intro d
  induction d with
  | zero =>
    intro x hx
    obtain rfl : x = m := by omega
    exact br_t (nI_le (by omega) (by omega)) K
  | succ d ih =>
    intro x hx
    have b := ps_xF (x := x) (by omega) (ps_F_b (gen := 0) hr hc0).1 (ps_F_b (gen := 0) hr hc0).2
    have h109 := yy_c109 (post := post) (J := wY_cyclic_83 post (nI m) (nI (ps_em (ps_F 2 ln rl 0) m)) (nI L) (nI c) mn w le ra fi se pm im ot od pl kn an tb ks (d + 1)) (L := L) (mn := mn) (w := w) (pm := pm) (im := im) (ot := ot) (od := od) (pl := pl) (kn := kn) (an := an) (tb := tb) (ks := ks) h0 hm (show x < m by omega) hc0 hc hr hs (ih (x + 1) (by omega)) m 0 (by omega)
    have e0 : (x : Int) * ps_F 0 ln rl 0 + ((0 : Nat) : Int) * ps_F 2 ln rl 0 = (x : Int) * ps_F 0 ln rl 0 := by
      rw [show ((0 : Nat) : Int) = 0 from rfl, Int.zero_mul, Int.add_zero]
    rw [e0] at h109
    have ex : nI x * fi 0 = ps_iI ((x : Int) * ps_F 0 ln rl 0) := by
      rw [(hs 0 hc0).1, ps_iI_nI]
      exact (Int32.ofInt_mul _ _).symm
    refine br_f (nI_ge (by omega) (by omega)) ⟨nz, ⟨nz, ?_⟩⟩
    rw [ex, ps_em_eq h0 hm (by omega) (by omega)]
    exact nm_e ⟨_, h109⟩
theorem yy_c16 {post : Int32 → SY → Prop} {m : Nat} (h0 : 0 < m) (hm : m ≤ 1000) (hc : c ≤ 4) (hr : ps_Ru c ln rl ra le) (K : ∀ fi' se', post (nI (ps_cc (ps_cp c m (ps_F 0 ln rl) (ps_F 2 ln rl)) m m)) (nI L, nI c, mn, w, le, ra, fi', se', pm, im, ot, od, pl, kn, an, tb, ks)) : ∀ d k fi' se', k + d = c → (∀ q, q < k → fi' q = ps_iI (ps_F 0 ln rl q) ∧ se' q = ps_iI (ps_F 2 ln rl q)) → wY_cyclic_16 post (nI m) (nI L) (nI c) mn (d + 1) (nI k) w le ra fi' se' pm im ot od pl kn an tb ks := by
  have nz : ¬ nI m = 0 := nI_ne0 h0 (by omega)
  intro d
  induction d with
  | zero =>
    intro k fi' se' hk h
    obtain rfl : k = c := by omega
    refine br_t (nI_le (by omega) (by omega)) ?_
    by_cases z : k = 0
    · have e : ps_cc (ps_cp k m (ps_F 0 ln rl) (ps_F 2 ln rl)) m m = m * m := ps_cc_all (fun x y => decide_eq_true (fun q hq => by omega)) m m
      rw [e, ← pk_mul] at K
      exact br_t (by rw [z]; rfl) (K fi' se')
    · have hb := ps_F_b (gen := 2) hr (show 0 < k by omega)
      refine br_f (nI_ne0 (by omega) (by omega)) ⟨nz, ⟨nz, ?_⟩⟩
      rw [(h 0 (by omega)).2, ps_em_eq h0 hm (by omega) (by omega)]
      exact nm_e ⟨m + 1, yy_c83 h0 hm (by omega) hc hr h (K fi' se') m 0 (by omega)⟩
  | succ d ih =>
    intro k fi' se' hk h
    have v4 : vp_in (nI k) 4 := vp_in_nI (by omega) (by decide)
    refine br_f (nI_ge (by omega) (by omega)) (yy_sum (gen := 0) (Or.inl rfl) hc hr (by omega) ⟨v4, nm_r (e' := upd fi' k (ps_iI (ps_F 0 ln rl k))) (ps_wr rfl (by omega) rfl) (yy_sum (gen := 2) (Or.inr rfl) hc hr (by omega) ⟨v4, nm_r (e' := upd se' k (ps_iI (ps_F 2 ln rl k))) (ps_wr rfl (by omega) rfl) (nm_r (nI_1 k) (ih (k + 1) _ _ (by omega) (fun q hq => ?_)))⟩)⟩)
    by_cases e : q = k
    · subst e
      exact ⟨pk_us, pk_us⟩
    · rw [pk_un e, pk_un e]
      exact h q (by omega)
theorem yy_cyclic_b {post : Int32 → SY → Prop} {v : Int32} (h : v < 1 ∨ 1000 < v) (k : post (-1) (nI L, nI c, mn, w, le, ra, fi, se, pm, im, ot, od, pl, kn, an, tb, ks)) : wpY_cyclic post (nI L, nI c, mn, w, le, ra, fi, se, pm, im, ot, od, pl, kn, an, tb, ks) v := by
  by_cases z : v < 1
  · exact br_t z k
  · rcases h with h | h
    · exact absurd h z
    · exact br_f z (br_f (Int32.not_le.mpr h) k)
theorem yy_cyclic_o {post : Int32 → SY → Prop} {m : Nat} (h0 : 0 < m) (hm : m ≤ 1000) (hL : L ≤ 8) (hc : c ≤ 4) (hw : ps_Wo wn w) (hr : ps_Ru c ln rl ra le) (hY : ps_YC c ln rl kn an tb ks) (K : ∀ u', yy_OK L c wn ln rl u' → post (nI (ps_cc (ps_cp c m (ps_F 0 ln rl) (ps_F 2 ln rl)) m m)) u') : wpY_cyclic post (nI L, nI c, mn, w, le, ra, fi, se, pm, im, ot, od, pl, kn, an, tb, ks) (nI m) :=
  br_f (nI_nlt (b := 1) (by omega) (by omega)) (br_t (nI_le (b := 1000) hm (by decide)) ⟨c + 1, yy_c16 h0 hm hc hr (fun fi' se' => K _ (yy_mk hL hc hw hr hY)) c 0 fi se (by omega) (fun q hq => by omega)⟩)
end
end
section
/-! what is owed -/
theorem ps_n5 (v : Int32) : (v < 1 ∨ 5 < v) ∨ ∃ n : Nat, 0 < n ∧ n ≤ 5 ∧ v = nI n := by
  rcases pk_ix v (n := 6) (by decide) with h | h | ⟨j, hj, rfl⟩
  · exact Or.inl (Or.inl (Int32.lt_trans h (by decide)))
  · exact Or.inl (Or.inr (Int32.lt_of_lt_of_le (show (5 : Int32) < nI 6 by decide) h))
  · by_cases e : j = 0
    · subst e
      exact Or.inl (Or.inl (by decide))
    · exact Or.inr ⟨j, by omega, by omega, rfl⟩
theorem ps_n1000 (v : Int32) : (v < 1 ∨ 1000 < v) ∨ ∃ n : Nat, 0 < n ∧ n ≤ 1000 ∧ v = nI n := by
  rcases pk_ix v (n := 1001) (by decide) with h | h | ⟨j, hj, rfl⟩
  · exact Or.inl (Or.inl (Int32.lt_trans h (by decide)))
  · exact Or.inl (Or.inr (Int32.lt_of_lt_of_le (show (1000 : Int32) < nI 1001 by decide) h))
  · by_cases e : j = 0
    · subst e
      exact Or.inl (Or.inl (by decide))
    · exact Or.inr ⟨j, by omega, by omega, rfl⟩
def i_Rel (k : Nat) (u : SX) (v : SY) : Prop :=
  ∃ (L c : Nat) (wn ln : Nat → Nat) (rl : Nat → Nat → Nat), xx_OK L c wn ln rl u ∧ yy_OK L c wn ln rl v
theorem i_up {k : Nat} {u : SX} {v : SY} (h : i_Rel k u v) : i_Rel (k + 5) u v :=
  h
theorem i_vc0 : wpX_init (fun u => wpY_init (fun v => i_Rel 0 u v)) :=
  ⟨0, 0, fun _ => 0, fun _ => 0, fun _ _ => 0, xx_mk (L := 0) (c := 0) (by omega) (by omega) (fun _ => ⟨by decide, rfl⟩) (fun k hk => absurd hk (Nat.not_lt_zero k)), yy_mk (L := 0) (c := 0) (by omega) (by omega) (fun _ => ⟨by decide, rfl⟩) (fun k hk => absurd hk (Nat.not_lt_zero k)) (ps_YC_0 (fun _ _ => rfl))⟩
theorem i_vc_letter {k : Nat} {u : SX} {v : SY} (I : i_Rel k u v) (hk : k + 5 ≤ 2560) (v1 : Int32) : wpX_letter (fun r u' => wpY_letter (fun r' v' => r' = r ∧ i_Rel (k + 5) u' v') v v1) u v1 := by
  obtain ⟨L, c, wn, ln, rl, hX, hY⟩ := I
  obtain ⟨tc, w, ra, le, im, tk, nn, mp, fs, ss, rfl, hL, hc, hw, hr⟩ := hX
  obtain ⟨mn, w2, le2, ra2, fi, se, pm, im2, ot, od, pl, kn, an, tb, ks, rfl, _, _, hw2, hr2, hC⟩ := hY
  rcases pk_ix v1 (n := 4) (by decide) with h | h | ⟨l, hl, rfl⟩
  · exact xx_letter_b (Or.inl h) (yy_letter_b (Or.inl h) ⟨rfl, L, c, wn, ln, rl, xx_mk hL hc hw hr, yy_mk hL hc hw2 hr2 hC⟩)
  · exact xx_letter_b (Or.inr h) (yy_letter_b (Or.inr h) ⟨rfl, L, c, wn, ln, rl, xx_mk hL hc hw hr, yy_mk hL hc hw2 hr2 hC⟩)
  · by_cases e : L = 8
    · exact xx_letter_f hl e (yy_letter_f hl e ⟨rfl, L, c, wn, ln, rl, xx_mk hL hc hw hr, yy_mk hL hc hw2 hr2 hC⟩)
    · exact xx_letter_o hl (by omega) (yy_letter_o hl (by omega) ⟨rfl, L + 1, c, ps_up wn L l, ln, rl, xx_mk (by omega) hc (ps_Wo_up hw L l hl) hr, yy_mk (by omega) hc (ps_Wo_up hw2 L l hl) hr2 hC⟩)
theorem i_vc_clear {k : Nat} {u : SX} {v : SY} (I : i_Rel k u v) (hk : k + 5 ≤ 2560) : wpX_clear (fun r u' => wpY_clear (fun r' v' => r' = r ∧ i_Rel (k + 5) u' v') v) u := by
  obtain ⟨L, c, wn, ln, rl, hX, hY⟩ := I
  obtain ⟨tc, w, ra, le, im, tk, nn, mp, fs, ss, rfl, hL, hc, hw, hr⟩ := hX
  obtain ⟨mn, w2, le2, ra2, fi, se, pm, im2, ot, od, pl, kn, an, tb, ks, rfl, _, _, hw2, hr2, hC⟩ := hY
  exact xx_clear (yy_clear ⟨rfl, 0, c, wn, ln, rl, xx_mk (by omega) hc hw hr, yy_mk (by omega) hc hw2 hr2 hC⟩)
theorem i_vc_invert {k : Nat} {u : SX} {v : SY} (I : i_Rel k u v) (hk : k + 5 ≤ 2560) : wpX_invert (fun r u' => wpY_invert (fun r' v' => r' = r ∧ i_Rel (k + 5) u' v') v) u := by
  obtain ⟨L, c, wn, ln, rl, hX, hY⟩ := I
  obtain ⟨tc, w, ra, le, im, tk, nn, mp, fs, ss, rfl, hL, hc, hw, hr⟩ := hX
  obtain ⟨mn, w2, le2, ra2, fi, se, pm, im2, ot, od, pl, kn, an, tb, ks, rfl, _, _, hw2, hr2, hC⟩ := hY
  exact xx_invert hL hw (fun w' hw' => yy_invert hL hw2 (fun w'' hw'' => ⟨rfl, L, c, ps_in L wn ((L + 1) / 2), ln, rl, xx_mk hL hc hw' hr, yy_mk hL hc hw'' hr2 hC⟩))
theorem i_vc_relate {k : Nat} {u : SX} {v : SY} (I : i_Rel k u v) (hk : k + 5 ≤ 2560) : wpX_relate (fun r u' => wpY_relate (fun r' v' => r' = r ∧ i_Rel (k + 5) u' v') v) u := by
  obtain ⟨L, c, wn, ln, rl, hX, hY⟩ := I
  obtain ⟨tc, w, ra, le, im, tk, nn, mp, fs, ss, rfl, hL, hc, hw, hr⟩ := hX
  obtain ⟨mn, w2, le2, ra2, fi, se, pm, im2, ot, od, pl, kn, an, tb, ks, rfl, _, _, hw2, hr2, hC⟩ := hY
  by_cases e : c = 4
  · exact xx_relate_f e (yy_relate_f e ⟨rfl, L, c, wn, ln, rl, xx_mk hL hc hw hr, yy_mk hL hc hw2 hr2 hC⟩)
  · exact xx_relate_o hL (by omega) hw hr (fun ra' le' h' => yy_relate_o hL (by omega) hw2 hr2 (fun ra'' le'' kn'' h'' hk => ⟨rfl, L, c + 1, wn, ps_up ln c L, (fun k => if k = c then wn else rl k), xx_mk hL (by omega) hw h', yy_mk hL (by omega) hw2 h'' (ps_YC_0 hk)⟩))
theorem i_vc_drop {k : Nat} {u : SX} {v : SY} (I : i_Rel k u v) (hk : k + 5 ≤ 2560) (v1 : Int32) : wpX_drop (fun r u' => wpY_drop (fun r' v' => r' = r ∧ i_Rel (k + 5) u' v') v v1) u v1 := by
  obtain ⟨L, c, wn, ln, rl, hX, hY⟩ := I
  obtain ⟨tc, w, ra, le, im, tk, nn, mp, fs, ss, rfl, hL, hc, hw, hr⟩ := hX
  obtain ⟨mn, w2, le2, ra2, fi, se, pm, im2, ot, od, pl, kn, an, tb, ks, rfl, _, _, hw2, hr2, hC⟩ := hY
  rcases pk_ix v1 (n := c) (by omega) with h | h | ⟨k, hk, rfl⟩
  · exact xx_drop_b (Or.inl h) (yy_drop_b (Or.inl h) ⟨rfl, L, c, wn, ln, rl, xx_mk hL hc hw hr, yy_mk hL hc hw2 hr2 hC⟩)
  · exact xx_drop_b (Or.inr h) (yy_drop_b (Or.inr h) ⟨rfl, L, c, wn, ln, rl, xx_mk hL hc hw hr, yy_mk hL hc hw2 hr2 hC⟩)
  · exact xx_drop_o hk hc hr (fun ra' le' h' => yy_drop_o hk hc hr2 (fun ra'' le'' kn'' h'' h6 => ⟨rfl, L, c - 1, wn, ps_dr k (c - 1) ln, ps_dr k (c - 1) rl, xx_mk hL (by omega) hw h', yy_mk hL (by omega) hw2 h'' (ps_YC_0 h6)⟩))
theorem i_vc_word {k : Nat} {u : SX} {v : SY} (I : i_Rel k u v) (hk : k + 5 ≤ 2560) : wpX_word (fun r => wpY_word (fun r' => r' = r ∧ i_Rel (k + 5) u v) v) u := by
  obtain ⟨L, c, wn, ln, rl, hX, hY⟩ := I
  obtain ⟨tc, w, ra, le, im, tk, nn, mp, fs, ss, rfl, hL, hc, hw, hr⟩ := hX
  obtain ⟨mn, w2, le2, ra2, fi, se, pm, im2, ot, od, pl, kn, an, tb, ks, rfl, _, _, hw2, hr2, hC⟩ := hY
  exact xx_word hL hw (yy_word hL hw2 ⟨rfl, L, c, wn, ln, rl, xx_mk hL hc hw hr, yy_mk hL hc hw2 hr2 hC⟩)
theorem i_vc_tables {k : Nat} {u : SX} {v : SY} (I : i_Rel k u v) (hk : k + 5 ≤ 2560) (v1 : Int32) : wpX_tables (fun r u' => wpY_tables (fun r' v' => r' = r ∧ i_Rel (k + 5) u' v') v v1) u v1 := by
  obtain ⟨L, c, wn, ln, rl, hX, hY⟩ := I
  obtain ⟨tc, w, ra, le, im, tk, nn, mp, fs, ss, rfl, hL, hc, hw, hr⟩ := hX
  obtain ⟨mn, w2, le2, ra2, fi, se, pm, im2, ot, od, pl, kn, an, tb, ks, rfl, _, _, hw2, hr2, hC⟩ := hY
  rcases ps_n5 v1 with h | ⟨n, h0, hn, rfl⟩
  · exact xx_tables_b h (yy_tables_b h ⟨rfl, L, c, wn, ln, rl, xx_mk hL hc hw hr, yy_mk hL hc hw2 hr2 hC⟩)
  · exact xx_tables_o h0 hn hL hc hw hr (fun u' hu => yy_tables_o h0 hn hL hc hw2 hr2 hC (fun v' hv => ⟨rfl, L, c, wn, ln, rl, hu, hv⟩))
theorem i_vc_image {k : Nat} {u : SX} {v : SY} (I : i_Rel k u v) (hk : k + 5 ≤ 2560) (v1 : Int32) (v2 : Int32) (v3 : Int32) (v4 : Int32) : wpX_image (fun r u' => wpY_image (fun r' v' => r' = r ∧ i_Rel (k + 5) u' v') v v1 v2 v3 v4) u v1 v2 v3 v4 := by
  obtain ⟨L, c, wn, ln, rl, hX, hY⟩ := I
  obtain ⟨tc, w, ra, le, im, tk, nn, mp, fs, ss, rfl, hL, hc, hw, hr⟩ := hX
  obtain ⟨mn, w2, le2, ra2, fi, se, pm, im2, ot, od, pl, kn, an, tb, ks, rfl, _, _, hw2, hr2, hC⟩ := hY
  rcases ps_n5 v1 with h | ⟨n, h0, hn, rfl⟩
  · exact xx_image_b1 h (yy_image_b1 h ⟨rfl, L, c, wn, ln, rl, xx_mk hL hc hw hr, yy_mk hL hc hw2 hr2 hC⟩)
  · rcases pk_ix v3 (n := n) (by omega) with h | h | ⟨p, hp, rfl⟩
    · exact xx_image_b2 h0 hn (Or.inl h) (yy_image_b2 h0 hn (Or.inl h) ⟨rfl, L, c, wn, ln, rl, xx_mk hL hc hw hr, yy_mk hL hc hw2 hr2 hC⟩)
    · exact xx_image_b2 h0 hn (Or.inr h) (yy_image_b2 h0 hn (Or.inr h) ⟨rfl, L, c, wn, ln, rl, xx_mk hL hc hw hr, yy_mk hL hc hw2 hr2 hC⟩)
    · rcases pk_ix v4 (n := 4) (by decide) with h | h | ⟨l, hl, rfl⟩
      · exact xx_image_b3 h0 hn hp (Or.inl h) (yy_image_b3 h0 hn hp (Or.inl h) ⟨rfl, L, c, wn, ln, rl, xx_mk hL hc hw hr, yy_mk hL hc hw2 hr2 hC⟩)
      · exact xx_image_b3 h0 hn hp (Or.inr h) (yy_image_b3 h0 hn hp (Or.inr h) ⟨rfl, L, c, wn, ln, rl, xx_mk hL hc hw hr, yy_mk hL hc hw2 hr2 hC⟩)
      · have hT := ps_TL_len (c := c) (ln := ln) (rl := rl) h0 hn
        rcases pk_ix v2 (n := (ps_TL n (ps_G n c ln rl)).length) (by omega) with h | h | ⟨k, hk, rfl⟩
        · exact xx_image_b4 h0 hn hp hl hL hc hw hr (Or.inl h) (fun u' hu => yy_image_b4 h0 hn hp hl hL hc hw2 hr2 hC (Or.inl h) (fun v' hv => ⟨rfl, L, c, wn, ln, rl, hu, hv⟩))
        · exact xx_image_b4 h0 hn hp hl hL hc hw hr (Or.inr h) (fun u' hu => yy_image_b4 h0 hn hp hl hL hc hw2 hr2 hC (Or.inr h) (fun v' hv => ⟨rfl, L, c, wn, ln, rl, hu, hv⟩))
        · exact xx_image_o h0 hn hp hl hL hc hw hr hk (fun u' hu => yy_image_o h0 hn hp hl hL hc hw2 hr2 hC hk (fun v' hv => ⟨rfl, L, c, wn, ln, rl, hu, hv⟩))
theorem i_vc_actions {k : Nat} {u : SX} {v : SY} (I : i_Rel k u v) (hk : k + 5 ≤ 2560) (v1 : Int32) : wpX_actions (fun r u' => wpY_actions (fun r' v' => r' = r ∧ i_Rel (k + 5) u' v') v v1) u v1 := by
  obtain ⟨L, c, wn, ln, rl, hX, hY⟩ := I
  obtain ⟨tc, w, ra, le, im, tk, nn, mp, fs, ss, rfl, hL, hc, hw, hr⟩ := hX
  obtain ⟨mn, w2, le2, ra2, fi, se, pm, im2, ot, od, pl, kn, an, tb, ks, rfl, _, _, hw2, hr2, hC⟩ := hY
  rcases ps_n5 v1 with h | ⟨n, h0, hn, rfl⟩
  · exact xx_actions_b h (yy_actions_b h ⟨rfl, L, c, wn, ln, rl, xx_mk hL hc hw hr, yy_mk hL hc hw2 hr2 hC⟩)
  · exact xx_actions_o h0 hn hL hc hw hr (fun u' hu => yy_actions_o h0 hn hL hc hw2 hr2 hC (fun v' hv => ⟨rfl, L, c, wn, ln, rl, hu, hv⟩))
theorem i_vc_even {k : Nat} {u : SX} {v : SY} (I : i_Rel k u v) (hk : k + 5 ≤ 2560) (v1 : Int32) : wpX_even (fun r u' => wpY_even (fun r' v' => r' = r ∧ i_Rel (k + 5) u' v') v v1) u v1 := by
  obtain ⟨L, c, wn, ln, rl, hX, hY⟩ := I
  obtain ⟨tc, w, ra, le, im, tk, nn, mp, fs, ss, rfl, hL, hc, hw, hr⟩ := hX
  obtain ⟨mn, w2, le2, ra2, fi, se, pm, im2, ot, od, pl, kn, an, tb, ks, rfl, _, _, hw2, hr2, hC⟩ := hY
  rcases ps_n5 v1 with h | ⟨n, h0, hn, rfl⟩
  · exact xx_even_b h (yy_even_b h ⟨rfl, L, c, wn, ln, rl, xx_mk hL hc hw hr, yy_mk hL hc hw2 hr2 hC⟩)
  · exact xx_even_o h0 hn hL hc hw hr (fun u' hu => yy_even_o h0 hn hL hc hw2 hr2 hC (fun v' hv => ⟨rfl, L, c, wn, ln, rl, hu, hv⟩))
theorem i_vc_kinds {k : Nat} {u : SX} {v : SY} (I : i_Rel k u v) (hk : k + 5 ≤ 2560) (v1 : Int32) : wpX_kinds (fun r u' => wpY_kinds (fun r' v' => r' = r ∧ i_Rel (k + 5) u' v') v v1) u v1 := by
  obtain ⟨L, c, wn, ln, rl, hX, hY⟩ := I
  obtain ⟨tc, w, ra, le, im, tk, nn, mp, fs, ss, rfl, hL, hc, hw, hr⟩ := hX
  obtain ⟨mn, w2, le2, ra2, fi, se, pm, im2, ot, od, pl, kn, an, tb, ks, rfl, _, _, hw2, hr2, hC⟩ := hY
  rcases ps_n5 v1 with h | ⟨n, h0, hn, rfl⟩
  · exact xx_kinds_b h (yy_kinds_b h ⟨rfl, L, c, wn, ln, rl, xx_mk hL hc hw hr, yy_mk hL hc hw2 hr2 hC⟩)
  · exact xx_kinds_o h0 hn hL hc hw hr (fun u' hu => yy_kinds_o h0 hn hL hc hw2 hr2 hC (fun v' hv => ⟨rfl, L, c, wn, ln, rl, hu, hv⟩))
theorem i_vc_period {k : Nat} {u : SX} {v : SY} (I : i_Rel k u v) (hk : k + 5 ≤ 2560) (v1 : Int32) (v2 : Int32) : wpX_period (fun r u' => wpY_period (fun r' v' => r' = r ∧ i_Rel (k + 5) u' v') v v1 v2) u v1 v2 := by
  obtain ⟨L, c, wn, ln, rl, hX, hY⟩ := I
  obtain ⟨tc, w, ra, le, im, tk, nn, mp, fs, ss, rfl, hL, hc, hw, hr⟩ := hX
  obtain ⟨mn, w2, le2, ra2, fi, se, pm, im2, ot, od, pl, kn, an, tb, ks, rfl, _, _, hw2, hr2, hC⟩ := hY
  rcases ps_n5 v1 with h | ⟨n, h0, hn, rfl⟩
  · exact xx_period_b h (yy_period_b h ⟨rfl, L, c, wn, ln, rl, xx_mk hL hc hw hr, yy_mk hL hc hw2 hr2 hC⟩)
  · have hT := ps_TL_len (c := c) (ln := ln) (rl := rl) h0 hn
    rcases pk_ix v2 (n := (ps_TL n (ps_G n c ln rl)).length) (by omega) with h | h | ⟨k, hk, rfl⟩
    · exact xx_period_n h0 hn hL hc hw hr (Or.inl h) (fun u' hu => yy_period_n h0 hn hL hc hw2 hr2 hC (Or.inl h) (fun v' hv => ⟨rfl, L, c, wn, ln, rl, hu, hv⟩))
    · exact xx_period_n h0 hn hL hc hw hr (Or.inr h) (fun u' hu => yy_period_n h0 hn hL hc hw2 hr2 hC (Or.inr h) (fun v' hv => ⟨rfl, L, c, wn, ln, rl, hu, hv⟩))
    · have hF := (ps_TLFa h0 hn hk).1
      obtain ⟨m, h1, hm, hz, hl⟩ := ps_per (F := ps_wk (ps_gk n ((ps_TL n (ps_G n c ln rl)).getD k 0)) wn L) h0 (fun p hp => ps_wk_lt hF.1 L p (fun j _ => (hw j).1) hp) (fun p q hp hq e => ps_wk_In hF.1 hF.2.1 L (fun j _ => (hw j).1) p q hp hq e)
      exact xx_period_o h0 hn hL hc hw hr hk h1 hm hz hl (fun u' hu => yy_period_o h0 hn hL hc hw2 hr2 hC hk h1 hz hl (fun v' hv => ⟨rfl, L, c, wn, ln, rl, hu, hv⟩))
theorem i_vc_fixing {k : Nat} {u : SX} {v : SY} (I : i_Rel k u v) (hk : k + 5 ≤ 2560) (v1 : Int32) : wpX_fixing (fun r u' => wpY_fixing (fun r' v' => r' = r ∧ i_Rel (k + 5) u' v') v v1) u v1 := by
  obtain ⟨L, c, wn, ln, rl, hX, hY⟩ := I
  obtain ⟨tc, w, ra, le, im, tk, nn, mp, fs, ss, rfl, hL, hc, hw, hr⟩ := hX
  obtain ⟨mn, w2, le2, ra2, fi, se, pm, im2, ot, od, pl, kn, an, tb, ks, rfl, _, _, hw2, hr2, hC⟩ := hY
  rcases ps_n5 v1 with h | ⟨n, h0, hn, rfl⟩
  · exact xx_fixing_b h (yy_fixing_b h ⟨rfl, L, c, wn, ln, rl, xx_mk hL hc hw hr, yy_mk hL hc hw2 hr2 hC⟩)
  · exact xx_fixing_o h0 hn hL hc hw hr (fun u' hu => yy_fixing_o h0 hn hL hc hw2 hr2 hC (fun v' hv => ⟨rfl, L, c, wn, ln, rl, hu, hv⟩))
theorem i_vc_still {k : Nat} {u : SX} {v : SY} (I : i_Rel k u v) (hk : k + 5 ≤ 2560) : wpX_still (fun r u' => wpY_still (fun r' v' => r' = r ∧ i_Rel (k + 5) u' v') v) u := by
  obtain ⟨L, c, wn, ln, rl, hX, hY⟩ := I
  obtain ⟨tc, w, ra, le, im, tk, nn, mp, fs, ss, rfl, hL, hc, hw, hr⟩ := hX
  obtain ⟨mn, w2, le2, ra2, fi, se, pm, im2, ot, od, pl, kn, an, tb, ks, rfl, _, _, hw2, hr2, hC⟩ := hY
  exact xx_still hL hc hw hr (fun u' hu => yy_still hL hc hw2 hr2 hC (fun v' hv => ⟨rfl, L, c, wn, ln, rl, hu, hv⟩))
theorem i_vc_cyclic {k : Nat} {u : SX} {v : SY} (I : i_Rel k u v) (hk : k + 5 ≤ 2560) (v1 : Int32) : wpX_cyclic (fun r u' => wpY_cyclic (fun r' v' => r' = r ∧ i_Rel (k + 5) u' v') v v1) u v1 := by
  obtain ⟨L, c, wn, ln, rl, hX, hY⟩ := I
  obtain ⟨tc, w, ra, le, im, tk, nn, mp, fs, ss, rfl, hL, hc, hw, hr⟩ := hX
  obtain ⟨mn, w2, le2, ra2, fi, se, pm, im2, ot, od, pl, kn, an, tb, ks, rfl, _, _, hw2, hr2, hC⟩ := hY
  rcases ps_n1000 v1 with h | ⟨m, h0, hm, rfl⟩
  · exact xx_cyclic_b h (yy_cyclic_b h ⟨rfl, L, c, wn, ln, rl, xx_mk hL hc hw hr, yy_mk hL hc hw2 hr2 hC⟩)
  · exact xx_cyclic_o h0 hm hL hc hw hr (fun u' hu => yy_cyclic_o h0 hm hL hc hw2 hr2 hC (fun v' hv => ⟨rfl, L, c, wn, ln, rl, hu, hv⟩))
end
