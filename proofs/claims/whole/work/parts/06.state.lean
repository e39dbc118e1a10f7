/-! the word and the relators, as numbers -/
def ps_Ru (c : Nat) (ln : Nat → Nat) (rl : Nat → Nat → Nat) (ra lens : Nat → Int32) : Prop := ∀ k, k < c → ln k ≤ 8 ∧ lens k = nI (ln k) ∧ ∀ i, i < ln k → rl k i < 4 ∧ ra (8 * k + i) = nI (rl k i)
def ps_Wo (wn : Nat → Nat) (w : Nat → Int32) : Prop := ∀ i, wn i < 4 ∧ w i = nI (wn i)
theorem ps_Wo_up {wn : Nat → Nat} {w : Nat → Int32} (h : ps_Wo wn w) (k x : Nat) (hx : x < 4) : ps_Wo (ps_up wn k x) (upd w k (nI x)) := by
  intro i
  show (if i = k then x else wn i) < 4 ∧ (if i = k then nI x else w i) = nI (if i = k then x else wn i)
  by_cases e : i = k
  · rw [if_pos e, if_pos e]
    exact ⟨hx, rfl⟩
  · rw [if_neg e, if_neg e]
    exact h i
def ps_in (L : Nat) (wn : Nat → Nat) : Nat → (Nat → Nat)
  | 0 => wn
  | i + 1 => ps_up (ps_up (ps_in L wn i) i (ps_in L wn i (L - 1 - i) ^^^ 1)) (L - 1 - i) (ps_in L wn i i ^^^ 1)
theorem ps_x1 : ∀ v, v < 4 → v ^^^ 1 < 4 := by decide
theorem ps_x1I {v : Nat} : nI v ^^^ 1 = nI (v ^^^ 1) := nx_xor v 1
def ps_wv (wn : Nat → Nat) : Nat → Int32
  | 0 => 1
  | i + 1 => 4 * ps_wv wn i + nI (wn i)
def ps_dr {α : Type} (k t : Nat) (f : Nat → α) (m : Nat) : α := if k ≤ m ∧ m < t then f (m + 1) else f m
theorem ps_dr_0 {α : Type} (k : Nat) (f : Nat → α) : ps_dr k k f = f := by
  funext m
  rw [ps_dr, if_neg (by omega)]
theorem ps_dr_at {α : Type} {k t : Nat} {f : Nat → α} : ps_dr k t f t = f t := by rw [ps_dr, if_neg (by omega)]
theorem ps_dr_n {α : Type} {k t : Nat} {f : Nat → α} : ps_dr k t f (t + 1) = f (t + 1) := by rw [ps_dr, if_neg (by omega)]
theorem ps_dr_s {α : Type} {k t : Nat} (h : k ≤ t) {f : Nat → α} : ps_dr k (t + 1) f t = f (t + 1) := by rw [ps_dr, if_pos (by omega)]
theorem ps_dr_o {α : Type} {k t m : Nat} {f : Nat → α} (h : m ≠ t) : ps_dr k (t + 1) f m = ps_dr k t f m := by
  rw [ps_dr, ps_dr]
  by_cases z : k ≤ m ∧ m < t
  · rw [if_pos z, if_pos (by omega)]
  · rw [if_neg z, if_neg (by omega)]
/-- one row moved down: the length and at least its letters -/
theorem ps_Ru_mv {c k t : Nat} {ln : Nat → Nat} {rl : Nat → Nat → Nat} {ra ra' lens lens' : Nat → Int32} (hk : k ≤ t) (ht : t + 1 < c) (h : ps_Ru c (ps_dr k t ln) (ps_dr k t rl) ra lens) (hl : lens' t = lens (t + 1)) (hlo : ∀ m, m ≠ t → lens' m = lens m) (ha : ∀ i, i < ln (t + 1) → ra' (8 * t + i) = ra (8 * (t + 1) + i)) (hao : ∀ m, m ≠ t → ∀ i, i < 8 → ra' (8 * m + i) = ra (8 * m + i)) : ps_Ru c (ps_dr k (t + 1) ln) (ps_dr k (t + 1) rl) ra' lens' := by
  intro m hm
  by_cases e : m = t
  · subst e
    rw [ps_dr_s hk, ps_dr_s hk, hl]
    have g := h (m + 1) ht
    rw [ps_dr_n, ps_dr_n] at g
    refine ⟨g.1, g.2.1, fun i hi => ⟨(g.2.2 i hi).1, ?_⟩⟩
    rw [ha i hi]
    exact (g.2.2 i hi).2
  · rw [ps_dr_o e, ps_dr_o e, hlo m e]
    have g := h m hm
    refine ⟨g.1, g.2.1, fun i hi => ⟨(g.2.2 i hi).1, ?_⟩⟩
    rw [hao m e i (by omega)]
    exact (g.2.2 i hi).2
theorem ps_Ru_sub {c c' : Nat} {ln : Nat → Nat} {rl : Nat → Nat → Nat} {ra lens : Nat → Int32} (h : ps_Ru c ln rl ra lens) (hc : c' ≤ c) : ps_Ru c' ln rl ra lens := fun k hk => h k (by omega)
/-- one relator more -/
theorem ps_Ru_new {c L : Nat} {ln wn : Nat → Nat} {rl : Nat → Nat → Nat} {ra ra' lens : Nat → Int32} (h : ps_Ru c ln rl ra lens) (hL : L ≤ 8) (hw : ∀ i, wn i < 4) (ha : ∀ i, i < L → ra' (8 * c + i) = nI (wn i)) (hao : ∀ j, j < 8 * c → ra' j = ra j) : ps_Ru (c + 1) (ps_up ln c L) (fun k => if k = c then wn else rl k) ra' (upd lens c (nI L)) := by
  intro k hk
  show (if k = c then L else ln k) ≤ 8 ∧ (if k = c then nI L else lens k) = nI (if k = c then L else ln k) ∧ ∀ i, i < (if k = c then L else ln k) → (if k = c then wn else rl k) i < 4 ∧ ra' (8 * k + i) = nI ((if k = c then wn else rl k) i)
  by_cases e : k = c
  · rw [if_pos e, if_pos e, if_pos e]
    subst e
    exact ⟨hL, rfl, fun i hi => ⟨hw i, ha i hi⟩⟩
  · rw [if_neg e, if_neg e, if_neg e]
    have g := h k (by omega)
    refine ⟨g.1, g.2.1, fun i hi => ⟨(g.2.2 i hi).1, ?_⟩⟩
    rw [hao _ (by omega)]
    exact (g.2.2 i hi).2
/-- which keys are tables in which the relators hold -/
def ps_G (n c : Nat) (ln : Nat → Nat) (rl : Nat → Nat → Nat) (K : Nat) : Bool := ps_isT n (ps_gk n K) && ps_hb n c ln rl (ps_gk n K)
def ps_H (n c : Nat) (ln : Nat → Nat) (rl : Nat → Nat → Nat) (K : Nat) : Bool := ps_hb n c ln rl (ps_gk n K)
def ps_YC (c : Nat) (ln : Nat → Nat) (rl : Nat → Nat → Nat) (kn an tb : Nat → Int32) (ks : Nat → Int64) : Prop := ∀ n, 0 < n → n ≤ 5 → kn n = 0 ∨ (kn n = 1 ∧ an n = nI ((ps_XL n).countP (ps_H n c ln rl)) ∧ tb n = nI (ps_TL n (ps_G n c ln rl)).length ∧ ps_Ar ks (461 * n) ((ps_TL n (ps_G n c ln rl)).map (ps_cv (4 * n))))
theorem ps_G_T {n c : Nat} {ln : Nat → Nat} {rl : Nat → Nat → Nat} (K : Nat) (h : ps_G n c ln rl K = true) : ps_isT n (ps_gk n K) = true := by
  rw [ps_G, Bool.and_eq_true] at h
  exact h.1
theorem ps_TL_len {n c : Nat} {ln : Nat → Nat} {rl : Nat → Nat → Nat} (h0 : 0 < n) (hn : n ≤ 5) : (ps_TL n (ps_G n c ln rl)).length ≤ 461 := by
  rw [(ps_TL_perm n _).length_eq]
  exact ps_pre_le (fun K h => ps_G_T K h) (Nat.le_refl _) (ev_cnt h0 hn)
/-- images, on both sides -/
def ps_XI (a : Nat → Int32) (n : Nat) (g : Nat → Nat → Nat) : Prop := ∀ l, l < 4 → ∀ p, p < n → a (4 * p + l) = nI (g l p)
def ps_YI (a : Nat → Int32) (n : Nat) (g : Nat → Nat → Nat) : Prop := ∀ l, l < 4 → ∀ p, p < n → a (5 * l + p) = nI (g l p)
theorem ps_XI_c {a : Nat → Int32} {n : Nat} {g g' : Nat → Nat → Nat} (h : ps_XI a n g) (e : ∀ l, l < 4 → ∀ p, p < n → g' l p = g l p) : ps_XI a n g' := fun l hl p hp => by rw [e l hl p hp]; exact h l hl p hp
theorem ps_YI_c {a : Nat → Int32} {n : Nat} {g g' : Nat → Nat → Nat} (h : ps_YI a n g) (e : ∀ l, l < 4 → ∀ p, p < n → g' l p = g l p) : ps_YI a n g' := fun l hl p hp => by rw [e l hl p hp]; exact h l hl p hp
def ps_b (b : Bool) : Int32 := if b then 1 else 0
