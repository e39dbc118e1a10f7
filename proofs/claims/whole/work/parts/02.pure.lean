/-! pure pictures: no state, no walk -/
def ps_fc {β : Type} (x : Nat) (f : Nat → β) : β := match x with
  | 0 => f 0
  | Nat.succ k => f (Nat.succ k)
theorem ps_fc_eq {β : Type} (x : Nat) (f : Nat → β) : ps_fc x f = f x := by cases x <;> rfl
theorem ps_or (a b : Nat) : nI a ||| nI b = nI (a ||| b) := by
  apply Int32.toBitVec_inj.1
  show BitVec.ofNat 32 a ||| BitVec.ofNat 32 b = BitVec.ofNat 32 (a ||| b)
  apply BitVec.eq_of_getLsbD_eq
  intro i hi
  simp [hi]
def ps_kf (b : Nat) (d : Nat → Nat) : Nat → Nat
  | 0 => 0
  | m + 1 => b * ps_kf b d m + d m
theorem ps_kf_lt {b : Nat} {d : Nat → Nat} : ∀ m, (∀ i, i < m → d i < b) → ps_kf b d m < b ^ m
  | 0, _ => by simp [ps_kf]
  | m + 1, h => by
    have h1 := ps_kf_lt m (fun i hi => h i (by omega))
    have h2 := h m (by omega)
    have h3 : b * (ps_kf b d m + 1) ≤ b * b ^ m := Nat.mul_le_mul_left b h1
    rw [ps_kf, Nat.pow_succ, Nat.mul_comm (b ^ m) b]
    rw [Nat.mul_add] at h3
    omega
theorem ps_kf_dm {b x d : Nat} (h : d < b) : (b * x + d) / b = x ∧ (b * x + d) % b = d := by
  have hb : 0 < b := by omega
  rw [Nat.mul_add_div hb, Nat.mul_add_mod, Nat.div_eq_of_lt h, Nat.mod_eq_of_lt h]
  exact ⟨rfl, rfl⟩
theorem ps_kf_div {b : Nat} {d : Nat → Nat} : ∀ m i, (∀ j, j < m → d j < b) → i ≤ m → ps_kf b d m / b ^ (m - i) = ps_kf b d i
  | 0, i, _, hi => by
    obtain rfl : i = 0 := by omega
    simp
  | m + 1, i, h, hi => by
    by_cases e : i = m + 1
    · subst e
      simp
    · have h1 : m + 1 - i = (m - i) + 1 := by omega
      have h2 := ps_kf_div m i (fun j hj => h j (by omega)) (by omega)
      rw [h1, Nat.pow_succ, Nat.mul_comm, ← Nat.div_div_eq_div_mul, ps_kf, (ps_kf_dm (h m (by omega))).1, h2]
theorem ps_kf_dig {b : Nat} {d : Nat → Nat} (m i : Nat) (h : ∀ j, j < m → d j < b) (hi : i < m) : ps_kf b d m / b ^ (m - 1 - i) % b = d i := by
  have e : m - 1 - i = m - (i + 1) := by omega
  rw [e, ps_kf_div m (i + 1) h hi, ps_kf, (ps_kf_dm (h i hi)).2]
theorem ps_kf_congr {b : Nat} {d d' : Nat → Nat} : ∀ m, (∀ i, i < m → d i = d' i) → ps_kf b d m = ps_kf b d' m
  | 0, _ => rfl
  | m + 1, h => by rw [ps_kf, ps_kf, ps_kf_congr m (fun i hi => h i (by omega)), h m (by omega)]
theorem ps_kf_add {b : Nat} {d d' : Nat → Nat} : ∀ m, ps_kf b (fun i => d i + d' i) m = ps_kf b d m + ps_kf b d' m
  | 0 => rfl
  | m + 1 => by rw [ps_kf, ps_kf, ps_kf, ps_kf_add m, Nat.mul_add]; omega
/-- digits of an action, row by row -/
def ps_dg (g : Nat → Nat → Nat) (i : Nat) : Nat := g (i % 4) (i / 4)
def ps_ky (n : Nat) (g : Nat → Nat → Nat) : Nat := ps_kf 8 (ps_dg g) (4 * n)
def ps_gk (n K : Nat) (l p : Nat) : Nat := K / 8 ^ (4 * n - 1 - (4 * p + l)) % 8
def ps_Gd (n : Nat) (g : Nat → Nat → Nat) : Prop := ∀ l, l < 4 → ∀ p, p < n → g l p < n
theorem ps_dg_lt {n : Nat} {g : Nat → Nat → Nat} (h : ps_Gd n g) (i : Nat) (hi : i < 4 * n) : ps_dg g i < n := h (i % 4) (by omega) (i / 4) (by omega)
theorem ps_gk_ky {n : Nat} (hn : n ≤ 5) {g : Nat → Nat → Nat} (h : ps_Gd n g) (l p : Nat) (hl : l < 4) (hp : p < n) : ps_gk n (ps_ky n g) l p = g l p := by
  rw [ps_gk, ps_ky, ps_kf_dig (4 * n) (4 * p + l) (fun j hj => Nat.lt_of_lt_of_le (ps_dg_lt h j hj) (by omega)) (by omega), ps_dg, show (4 * p + l) % 4 = l by omega, show (4 * p + l) / 4 = p by omega]
def ps_cv : Nat → Nat → Nat
  | 0, _ => 0
  | m + 1, K => 5 * ps_cv m (K / 8) + K % 8
def ps_D5 : Nat → Nat → Prop
  | 0, K => K = 0
  | m + 1, K => K % 8 < 5 ∧ ps_D5 m (K / 8)
def ps_D5b : Nat → Nat → Bool
  | 0, K => decide (K = 0)
  | m + 1, K => decide (K % 8 < 5) && ps_D5b m (K / 8)
theorem ps_D5b_iff : ∀ m K, ps_D5b m K = true → ps_D5 m K
  | 0, K, h => of_decide_eq_true (p := K = 0) h
  | m + 1, K, h => by
    rw [ps_D5b, Bool.and_eq_true] at h
    exact And.intro (of_decide_eq_true h.1) (ps_D5b_iff m _ h.2)
theorem ps_D5_kf {d : Nat → Nat} : ∀ m, (∀ i, i < m → d i < 5) → ps_D5 m (ps_kf 8 d m)
  | 0, _ => rfl
  | m + 1, h => by
    have e := ps_kf_dm (b := 8) (x := ps_kf 8 d m) (d := d m) (Nat.lt_trans (h m (by omega)) (by decide))
    rw [ps_D5, ps_kf, e.1, e.2]
    exact ⟨h m (by omega), ps_D5_kf m (fun i hi => h i (by omega))⟩
theorem ps_cv_kf {d : Nat → Nat} : ∀ m, (∀ i, i < m → d i < 8) → ps_cv m (ps_kf 8 d m) = ps_kf 5 d m
  | 0, _ => rfl
  | m + 1, h => by
    have e := ps_kf_dm (b := 8) (x := ps_kf 8 d m) (d := d m) (h m (by omega))
    rw [ps_cv, ps_kf, e.1, e.2, ps_cv_kf m (fun i hi => h i (by omega)), ps_kf]
theorem ps_cv_st {m x d : Nat} (h : d < 8) : ps_cv (m + 1) (8 * x + d) = 5 * ps_cv m x + d := by
  have e := ps_kf_dm (b := 8) (x := x) (d := d) h
  rw [ps_cv, e.1, e.2]
theorem ps_cv_lt : ∀ m K K', ps_D5 m K → ps_D5 m K' → (K < K' ↔ ps_cv m K < ps_cv m K')
  | 0, K, K', h, h' => by
    rw [ps_D5] at h h'
    subst h h'
    simp [ps_cv]
  | m + 1, K, K', h, h' => by
    have h : K % 8 < 5 ∧ ps_D5 m (K / 8) := h
    have h' : K' % 8 < 5 ∧ ps_D5 m (K' / 8) := h'
    have i1 := ps_cv_lt m (K / 8) (K' / 8) h.2 h'.2
    have i2 := ps_cv_lt m (K' / 8) (K / 8) h'.2 h.2
    have a := h.1
    have b := h'.1
    rw [ps_cv, ps_cv]
    generalize ps_cv m (K / 8) = c at i1 i2 ⊢
    generalize ps_cv m (K' / 8) = c' at i1 i2 ⊢
    constructor <;> intro q <;> omega
theorem ps_cv_eq {m K K' : Nat} (h : ps_D5 m K) (h' : ps_D5 m K') : K = K' ↔ ps_cv m K = ps_cv m K' := by
  have a := ps_cv_lt m K K' h h'
  have b := ps_cv_lt m K' K h' h
  omega
theorem ps_cv_5 : ∀ m K, ps_D5 m K → ps_cv m K < 5 ^ m
  | 0, _, _ => by simp [ps_cv]
  | m + 1, K, h => by
    have h : K % 8 < 5 ∧ ps_D5 m (K / 8) := h
    have := ps_cv_5 m _ h.2
    have a := h.1
    rw [ps_cv, Nat.pow_succ]
    omega
theorem ps_D5_8 : ∀ m K, ps_D5 m K → K < 8 ^ m
  | 0, K, h => by rw [ps_D5] at h; simp [h]
  | m + 1, K, h => by
    have h : K % 8 < 5 ∧ ps_D5 m (K / 8) := h
    have := ps_D5_8 m _ h.2
    rw [Nat.pow_succ]
    omega
/-- after j digits are taken from the end -/
theorem ps_D5_sh : ∀ j m K, ps_D5 (j + m) K → ps_D5 m (K / 8 ^ j)
  | 0, m, K, h => by rw [Nat.zero_add] at h; simpa using h
  | j + 1, m, K, h => by
    rw [show j + 1 + m = (j + m) + 1 by omega] at h
    have h : K % 8 < 5 ∧ ps_D5 (j + m) (K / 8) := h
    have := ps_D5_sh j m (K / 8) h.2
    rw [Nat.pow_succ, Nat.mul_comm, ← Nat.div_div_eq_div_mul]
    exact this
theorem ps_cv_dm {m K : Nat} (h : ps_D5 (m + 1) K) : ps_cv (m + 1) K / 5 = ps_cv m (K / 8) ∧ ps_cv (m + 1) K % 5 = K % 8 := by
  have h : K % 8 < 5 ∧ ps_D5 m (K / 8) := h
  rw [ps_cv]
  exact ps_kf_dm h.1
/-- walks -/
def ps_wk (g : Nat → Nat → Nat) (r : Nat → Nat) : Nat → Nat → Nat
  | 0, p => p
  | d + 1, p => g (r d) (ps_wk g r d p)
theorem ps_wk_lt {n : Nat} {g : Nat → Nat → Nat} {r : Nat → Nat} (hg : ps_Gd n g) : ∀ d p, (∀ i, i < d → r i < 4) → p < n → ps_wk g r d p < n
  | 0, _, _, hp => hp
  | d + 1, p, h, hp => hg _ (h d (by omega)) _ (ps_wk_lt hg d p (fun i hi => h i (by omega)) hp)
def ps_hb (n c : Nat) (ln : Nat → Nat) (rl : Nat → Nat → Nat) (g : Nat → Nat → Nat) : Bool := decide (∀ k, k < c → ∀ p, p < n → ps_wk g (rl k) (ln k) p = p)
/-- tables -/
def ps_tL (g : Nat → Nat → Nat) (p : Nat) : Nat → Nat → Nat → Option Nat
  | 0, _, met => some met
  | d + 1, l, met => ps_fc (g l p) fun q => if met < q then none else if q = met then ps_tL g p d (l + 1) (Nat.succ met) else ps_tL g p d (l + 1) met
def ps_tP (g : Nat → Nat → Nat) : Nat → Nat → Nat → Bool
  | 0, _, _ => true
  | d + 1, p, met => if met ≤ p then false else match ps_tL g p 4 0 met with
    | none => false
    | some m => ps_tP g d (p + 1) m
def ps_isT (n : Nat) (g : Nat → Nat → Nat) : Bool := ps_tP g n 0 1
/-- numbering anew -/
def ps_up (f : Nat → Nat) (k x : Nat) : Nat → Nat := fun j => if j = k then x else f j
def ps_nL (n : Nat) (g : Nat → Nat → Nat) (q0 : Nat) (k : Nat → (Nat → Nat) → (Nat → Nat) → Nat → Option Nat) : Nat → Nat → Nat → (Nat → Nat) → (Nat → Nat) → Nat → Option Nat
  | 0, _, met, nn, mp, key => k met nn mp key
  | d + 1, l, met, nn, mp, key => ps_fc (g l q0) fun q => if q < n then ps_fc (nn q) fun e => if e = 9 then (if met < n then ps_nL n g q0 k d (l + 1) (Nat.succ met) (ps_up nn q met) (ps_up mp met q) (8 * key + met) else none) else (if e < n then ps_nL n g q0 k d (l + 1) met nn mp (8 * key + e) else none) else none
def ps_nR (n : Nat) (g : Nat → Nat → Nat) : Nat → Nat → Nat → (Nat → Nat) → (Nat → Nat) → Nat → Option Nat
  | 0, _, _, _, _, key => some key
  | d + 1, i, met, nn, mp, key => if i < met then (if mp i < n then ps_nL n g (mp i) (fun met nn mp key => ps_nR n g d (i + 1) met nn mp key) 4 0 met nn mp key else none) else none
def ps_rn (n : Nat) (g : Nat → Nat → Nat) (s : Nat) : Option Nat := ps_nR n g n 0 1 (ps_up (fun _ => 9) s 0) (fun _ => s) 0
def ps_ck (n K : Nat) : Bool := (!ps_isT n (ps_gk n K)) || (List.range n).all (fun s => match ps_rn n (ps_gk n K) s with
  | none => false
  | some R => ps_D5b (4 * n) R)
/-- permutations -/
def ps_iv (f : Nat → Nat) : Nat → Nat → Nat
  | 0, _ => 0
  | m + 1, q => if f m = q then m else ps_iv f m q
def ps_fn (l : List Nat) (p : Nat) : Nat := l.getD p 0
def ps_Pm (n : Nat) (l : List Nat) : Bool := decide (∀ p, p < n → ps_fn l p < n ∧ ps_iv (ps_fn l) n (ps_fn l p) = p ∧ ps_iv (ps_fn l) n p < n ∧ ps_fn l (ps_iv (ps_fn l) n p) = p)
def ps_ac (n : Nat) (f h : List Nat) (l p : Nat) : Nat := match l with
  | 0 => ps_fn f p
  | 1 => ps_iv (ps_fn f) n p
  | 2 => ps_fn h p
  | _ => ps_iv (ps_fn h) n p
def ps_ga (n : Nat) (f : List Nat) (l p : Nat) : Nat := match l with
  | 0 => ps_fn f p
  | 1 => ps_iv (ps_fn f) n p
  | _ => 0
def ps_gb (n : Nat) (h : List Nat) (l p : Nat) : Nat := match l with
  | 0 => 0
  | 1 => 0
  | 2 => ps_fn h p
  | _ => ps_iv (ps_fn h) n p
def ps_A (n : Nat) (f : List Nat) : Nat := ps_ky n (ps_ga n f)
def ps_B (n : Nat) (h : List Nat) : Nat := ps_ky n (ps_gb n h)
theorem ps_AB (n : Nat) (f h : List Nat) : ps_ky n (ps_ac n f h) = ps_A n f + ps_B n h := by
  rw [ps_A, ps_B, ps_ky, ps_ky, ps_ky, ← ps_kf_add]
  apply ps_kf_congr
  intro i _
  have h4 : i % 4 < 4 := by omega
  rw [ps_dg, ps_dg, ps_dg]
  generalize i % 4 = l at h4 ⊢
  match l, h4 with
  | 0, _ => rfl
  | 1, _ => rfl
  | 2, _ => exact (Nat.zero_add _).symm
  | 3, _ => exact (Nat.zero_add _).symm
theorem ps_Pm_iff {n : Nat} {l : List Nat} (h : ps_Pm n l = true) (p : Nat) (hp : p < n) : ps_fn l p < n ∧ ps_iv (ps_fn l) n (ps_fn l p) = p ∧ ps_iv (ps_fn l) n p < n ∧ ps_fn l (ps_iv (ps_fn l) n p) = p := (of_decide_eq_true h) p hp
theorem ps_ac_Gd {n : Nat} {f h : List Nat} (hf : ps_Pm n f = true) (hh : ps_Pm n h = true) : ps_Gd n (ps_ac n f h) := by
  intro l hl p hp
  have a := ps_Pm_iff hf p hp
  have b := ps_Pm_iff hh p hp
  match l, hl with
  | 0, _ => exact a.1
  | 1, _ => exact a.2.2.1
  | 2, _ => exact b.1
  | 3, _ => exact b.2.2.1
/-- injective letters -/
def ps_In (n : Nat) (g : Nat → Nat → Nat) : Prop := ∀ l, l < 4 → ∀ p, p < n → ∀ q, q < n → g l p = g l q → p = q
theorem ps_ac_In {n : Nat} {f h : List Nat} (hf : ps_Pm n f = true) (hh : ps_Pm n h = true) : ps_In n (ps_ac n f h) := by
  intro l hl p hp q hq e
  have a := ps_Pm_iff hf p hp
  have b := ps_Pm_iff hh p hp
  have a' := ps_Pm_iff hf q hq
  have b' := ps_Pm_iff hh q hq
  match l, hl, e with
  | 0, _, e => exact a.2.1.symm.trans ((congrArg (ps_iv (ps_fn f) n) e).trans a'.2.1)
  | 1, _, e => exact a.2.2.2.symm.trans ((congrArg (ps_fn f) e).trans a'.2.2.2)
  | 2, _, e => exact b.2.1.symm.trans ((congrArg (ps_iv (ps_fn h) n) e).trans b'.2.1)
  | 3, _, e => exact b.2.2.2.symm.trans ((congrArg (ps_fn h) e).trans b'.2.2.2)
theorem ps_wk_In {n : Nat} {g : Nat → Nat → Nat} {r : Nat → Nat} (hg : ps_Gd n g) (hi : ps_In n g) : ∀ d, (∀ i, i < d → r i < 4) → ∀ p q, p < n → q < n → ps_wk g r d p = ps_wk g r d q → p = q
  | 0, _, _, _, _, _, e => e
  | d + 1, h, p, q, hp, hq, e => ps_wk_In hg hi d (fun i hi => h i (by omega)) p q hp hq (hi _ (h d (by omega)) _ (ps_wk_lt hg d p (fun i hi => h i (by omega)) hp) _ (ps_wk_lt hg d q (fun i hi => h i (by omega)) hq) e)
