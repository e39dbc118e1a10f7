/-! the component's search -/
def ps_Cl (a : Nat → Int32) (n o : Nat) (f : List Nat) : Prop := ∀ p, p < n → a (4 * p + o) = nI (ps_fn f p) ∧ a (4 * p + (o + 1)) = nI (ps_iv (ps_fn f) n p)
theorem ps_Cl_XI {a : Nat → Int32} {n : Nat} {f h : List Nat} (hf : ps_Cl a n 0 f) (hh : ps_Cl a n 2 h) : ps_XI a n (ps_ac n f h) := by
  intro l hl p hp
  match l, hl with
  | 0, _ => exact (hf p hp).1
  | 1, _ => exact (hf p hp).2
  | 2, _ => exact (hh p hp).1
  | 3, _ => exact (hh p hp).2
theorem ps_shl3 (m : Nat) {v : Nat} (hv : v < 2 ^ 31) : (lN m <<< ((3 : Int32).toInt64 &&& 63)) + (nI v).toInt64 = lN (8 * m + v) := by
  have e : lN m <<< ((3 : Int32).toInt64 &&& 63) = lN (m * 2 ^ 3) := wb_shl m (k := 3) (by decide)
  rw [e, nI_l hv, lN_add, Nat.mul_comm]
section
variable {L c : Nat} {tc : Int32} {w ra le im nn mp fs ss : Nat → Int32} {tk : Nat → Int64}
theorem xx_perm4 {post : Int32 → Prop} {n : Nat} (hn : n ≤ 5) (K : post (nI (ps_fa n))) : ∀ d j, j + d = n → wX_permutationsOf_4 post (nI n) (nI L) (nI c) tc w ra le im tk nn mp fs ss (d + 1) (nI (ps_fa j)) (nI (j + 1)) := by
  intro d
  induction d with
  | zero =>
    intro j hj
    obtain rfl : j = n := by omega
    exact br_t (nI_lt (by omega) (by omega)) K
  | succ d ih =>
    intro j hj
    exact br_f (nI_nlt (by omega) (by omega)) (nm_r (e' := nI (ps_fa (j + 1))) (by rw [pk_mul, ps_fa, Nat.mul_comm]) (nm_r (nI_1 (j + 1)) (ih (j + 1) (by omega))))
theorem xx_perm {post : Int32 → Prop} {n : Nat} (h0 : 0 < n) (hn : n ≤ 5) (K : post (nI (ps_fa n))) : wpX_permutationsOf post (nI L, nI c, tc, w, ra, le, im, tk, nn, mp, fs, ss) (nI n) :=
  ⟨n - 1 + 1, xx_perm4 hn K (n - 1) 1 (by omega)⟩
theorem xx_sg116 {post : SX → Prop} {n o : Nat} {f : Nat → Nat} {a0 : Nat → Int32} (hn : n ≤ 5) (ho : o = 0 ∨ o = 2) (hf : ∀ p, p < n → f p < n) (hi : ∀ p, p < n → ∀ q, q < n → f p = f q → p = q) (K : ∀ a', (∀ p, p < n → a' (4 * p + o) = nI (f p)) → (∀ p, p < n → a' (4 * f p + (o + 1)) = nI p) → (∀ j, j % 4 ≠ o → j % 4 ≠ o + 1 → a' j = a0 j) → post (nI L, nI c, tc, w, ra, le, a', tk, nn, mp, fs, ss)) : ∀ d i a', i + d = n → (∀ p, p < n → a' (4 * p + o) = nI (f p)) → (∀ p, p < i → a' (4 * f p + (o + 1)) = nI p) → (∀ j, j % 4 ≠ o → j % 4 ≠ o + 1 → a' j = a0 j) → wX_setGenerator_116 post (nI n) (nI o) (nI L) (nI c) tc (d + 1) (nI i) w ra le a' tk nn mp fs ss := by
  have eo : nI o ^^^ 1 = nI (o + 1) := by rcases ho with rfl | rfl <;> decide
  intro d
  induction d with
  | zero =>
    intro i a' h1 h2 h3 h4
    obtain rfl : i = n := by omega
    exact br_t (nI_le (by omega) (by omega)) (K a' h2 h3 h4)
  | succ d ih =>
    intro i a' h1 h2 h3 h4
    have hfi := hf i (by omega)
    have ex : nI (f i) * 4 + (nI o ^^^ 1) = nI (4 * f i + (o + 1)) := by rw [eo]; exact ps_ix4 _ _
    have ho2 : o ≤ 2 := by omega
    refine br_f (nI_ge (by omega) (by omega)) ⟨pk_in (4 * i + o) 20 (by omega) (ps_ix4 i o), nm_r (e' := nI (f i)) (ps_rd (ps_ix4 i o) (by omega) (h2 i (by omega))) ⟨pk_in (4 * f i + (o + 1)) 20 (by omega) ex, nm_r (e' := upd a' (4 * f i + (o + 1)) (nI i)) (ps_wr ex (by omega) rfl) (nm_r (nI_1 i) (ih (i + 1) _ (by omega) ?_ ?_ ?_))⟩⟩
    · intro p hp
      rw [pk_un (by omega)]
      exact h2 p hp
    · intro p hp
      by_cases e : p = i
      · subst e
        exact pk_us
      · have : f p ≠ f i := fun q => e (hi p (by omega) i (by omega) q)
        rw [pk_un (by omega)]
        exact h3 p (by omega)
    · intro j q1 q2
      rw [pk_un (by omega)]
      exact h4 j q1 q2
theorem xx_sg36 {post : SX → Prop} {n o : Nat} {F : Nat → Nat} {a0 : Nat → Int32} (hn : n ≤ 5) (ho : o = 0 ∨ o = 2) (K : ∀ a', (∀ x, x < n → a' (4 * x + o) = nI (F x)) → (∀ j, j % 4 ≠ o → a' j = a0 j) → ∃ m, wX_setGenerator_116 post (nI n) (nI o) (nI L) (nI c) tc m 0 w ra le a' tk nn mp fs ss) : ∀ p rest f a', p < n → rest < 2 ^ 31 → ps_xf p rest f = F → (∀ x, x < n → a' (4 * x + o) = nI (f x)) → (∀ j, j % 4 ≠ o → a' j = a0 j) → wX_setGenerator_36 post (nI n) (nI o) (nI L) (nI c) tc (p + 1) (nI rest) (nI p) w ra le a' tk nn mp fs ss := by
  have ho2 : o ≤ 2 := by omega
  intro p
  induction p with
  | zero =>
    intro rest f a' hp hr hF h1 h2
    have hF : f = F := hF
    subst hF
    exact br_t (by decide) (K a' h1 h2)
  | succ p ih =>
    intro rest f a' hp hr hF h1 h2
    have e1 : nI (p + 1) + 1 = nI (p + 2) := nI_1 (p + 1)
    have ne : ¬ (nI (p + 1) + 1) = 0 := by rw [e1]; exact nI_ne0 (by omega) (by omega)
    have hq : rest % (p + 2) < p + 2 := Nat.mod_lt _ (by omega)
    have er : nI rest - nI rest / (nI (p + 1) + 1) * (nI (p + 1) + 1) = nI (rest % (p + 2)) := by rw [e1]; exact pk_rem hr (by omega) (by omega)
    have ed : nI rest / (nI (p + 1) + 1) = nI (rest / (p + 2)) := by rw [e1]; exact pk_div hr (by omega) (by omega)
    have hd : rest / (p + 2) < 2 ^ 31 := Nat.lt_of_le_of_lt (Nat.div_le_self _ _) hr
    have w1 := pk_in (4 * (p + 1) + o) 20 (by omega) (ps_ix4 (p + 1) o)
    have w2 := pk_in (4 * (rest % (p + 2)) + o) 20 (by omega) (ps_ix4 (rest % (p + 2)) o)
    refine br_f (nI_nle (by omega) (by omega)) ⟨ne, nm_r er ⟨ne, nm_r ed ⟨w1, nm_r (e' := nI (f (p + 1))) (ps_rd (ps_ix4 (p + 1) o) (by omega) (h1 _ hp)) ⟨w2, ⟨w1, nm_r (e' := upd a' (4 * (p + 1) + o) (nI (f (rest % (p + 2))))) (ps_wr (ps_ix4 (p + 1) o) (by omega) (ps_rd (ps_ix4 _ o) (by omega) (h1 _ (by omega)))) ⟨w2, nm_r (e' := upd (upd a' (4 * (p + 1) + o) (nI (f (rest % (p + 2))))) (4 * (rest % (p + 2)) + o) (nI (f (p + 1)))) (ps_wr (ps_ix4 _ o) (by omega) rfl) (nm_r (pk_m1 p) (ih (rest / (p + 2)) (ps_sw f (p + 1) (rest % (p + 2))) _ (by omega) hd hF ?_ ?_))⟩⟩⟩⟩⟩⟩
    · intro x hx
      show _ = nI (if x = rest % (p + 2) then f (p + 1) else if x = p + 1 then f (rest % (p + 2)) else f x)
      by_cases e : x = rest % (p + 2)
      · rw [if_pos e, e, pk_us]
      · rw [if_neg e, pk_un (by omega)]
        by_cases e' : x = p + 1
        · rw [if_pos e', e', pk_us]
        · rw [if_neg e', pk_un (by omega)]
          exact h1 x hx
    · intro j hj
      rw [pk_un (by omega), pk_un (by omega)]
      exact h2 j hj
theorem xx_sg3 {post : SX → Prop} {n o code : Nat} {a0 : Nat → Int32} (h0 : 0 < n) (hn : n ≤ 5) (ho : o = 0 ∨ o = 2) (K : ∀ a', (∀ x, x < n → a' (4 * x + o) = nI x) → (∀ j, j % 4 ≠ o → a' j = a0 j) → ∃ m, wX_setGenerator_36 post (nI n) (nI o) (nI L) (nI c) tc m (nI code) (nI (n - 1)) w ra le a' tk nn mp fs ss) : ∀ d i a', i + d = n → (∀ x, x < i → a' (4 * x + o) = nI x) → (∀ j, j % 4 ≠ o → a' j = a0 j) → wX_setGenerator_3 post (nI n) (nI o) (nI code) (nI L) (nI c) tc (d + 1) (nI i) w ra le a' tk nn mp fs ss := by
  intro d
  induction d with
  | zero =>
    intro i a' h1 h2 h3
    obtain rfl : i = n := by omega
    exact br_t (nI_le (by omega) (by omega)) (nm_r (ps_m1 h0) (K a' h2 h3))
  | succ d ih =>
    intro i a' h1 h2 h3
    have ho2 : o ≤ 2 := by omega
    refine br_f (nI_ge (by omega) (by omega)) ⟨pk_in (4 * i + o) 20 (by omega) (ps_ix4 i o), nm_r (e' := upd a' (4 * i + o) (nI i)) (ps_wr (ps_ix4 i o) (by omega) rfl) (nm_r (nI_1 i) (ih (i + 1) _ (by omega) ?_ ?_))⟩
    · intro x hx
      by_cases e : x = i
      · subst e
        exact pk_us
      · rw [pk_un (by omega)]
        exact h2 x (by omega)
    · intro j hj
      rw [pk_un (by omega)]
      exact h3 j hj
theorem xx_setG {post : SX → Prop} {n o code : Nat} (h0 : 0 < n) (hn : n ≤ 5) (ho : o = 0 ∨ o = 2) (hc : code < ps_fa n) (K : ∀ a', ps_Cl a' n o (ps_xl n code) → (∀ j, j % 4 ≠ o → j % 4 ≠ o + 1 → a' j = im j) → post (nI L, nI c, tc, w, ra, le, a', tk, nn, mp, fs, ss)) : wpX_setGenerator post (nI L, nI c, tc, w, ra, le, im, tk, nn, mp, fs, ss) (nI n) (nI o) (nI code) := by
  have hP := ev_xl h0 hn hc
  have hfa := (ev_fa hn).2
  have ex : ∀ x, x < n → ps_fn (ps_xl n code) x = ps_xf (n - 1) code (fun p => p) x := fun x hx => ps_gR hx
  refine ⟨n + 1, xx_sg3 (a0 := im) h0 hn ho (fun a1 g1 g2 => ⟨n - 1 + 1, xx_sg36 (a0 := im) (F := ps_xf (n - 1) code (fun p => p)) hn ho (fun a2 k1 k2 => ⟨n + 1, xx_sg116 (a0 := im) (f := ps_fn (ps_xl n code)) hn ho (fun p hp => (ps_Pm_iff hP p hp).1) (fun p hp q hq e => (ps_Pm_iff hP p hp).2.1.symm.trans ((congrArg _ e).trans (ps_Pm_iff hP q hq).2.1)) (fun a3 m1 m2 m3 => K a3 (fun p hp => ⟨m1 p hp, ?_⟩) m3) n 0 a2 (by omega) (fun p hp => by rw [ex p hp]; exact k1 p hp) (fun p hp => by omega) (fun j q1 _ => k2 j q1)⟩) (n - 1) code (fun p => p) a1 (by omega) (by omega) rfl g1 g2⟩) n 0 im (by omega) (fun x hx => by omega) (fun _ _ => rfl)⟩
  have h := ps_Pm_iff hP p hp
  have m := m2 _ h.2.2.1
  rw [h.2.2.2] at m
  exact m
theorem xx_num19 {post : Int32 → Prop} {J : Int32 → Int32 → Prop} {n p : Nat} {g : Nat → Nat → Nat} (hn : n ≤ 5) (hp : p < n) (hI : ps_XI im n g) (hg : ps_Gd n g) : ∀ d l met, l + d = 4 → met ≤ n → (ps_tL g p d l met = none → post 0) → (∀ m, ps_tL g p d l met = some m → m ≤ n → J (nI m) (nI (p + 1))) → wX_isNumberedAsMet_19 post J (nI n) (nI p) (nI L) (nI c) tc w ra le im tk nn mp fs ss (d + 1) (nI met) (nI l) := by
  intro d
  induction d with
  | zero =>
    intro l met hl hm q0 q1
    obtain rfl : l = 4 := by omega
    exact br_t (nI_le (a := 4) (b := 4) (by decide) (by decide)) (nm_r (nI_1 p) (q1 met rfl hm))
  | succ d ih =>
    intro l met hl hm q0 q1
    have hq := hg l (by omega) p hp
    rw [ps_tL, ps_fc_eq] at q0 q1
    refine br_f (nI_ge (b := 4) (by omega) (by decide)) ⟨pk_in (4 * p + l) 20 (by omega) (ps_ix4 p l), nm_r (e' := nI (g l p)) (ps_rd (ps_ix4 p l) (by omega) (hI l (by omega) p hp)) ?_⟩
    by_cases z : met < g l p
    · rw [if_pos z] at q0
      exact br_f (nI_ge z (by omega)) (q0 rfl)
    · rw [if_neg z] at q0 q1
      refine br_t (nI_le (by omega) (by omega)) ?_
      by_cases z2 : g l p = met
      · rw [if_pos z2] at q0 q1
        exact br_t (by rw [z2]) (nm_r (nI_1 met) (nm_r (nI_1 l) (ih (l + 1) (met + 1) (by omega) (by omega) q0 q1)))
      · rw [if_neg z2] at q0 q1
        exact br_f (fun q => z2 ((nI_eq (by omega) (by omega)).mp q)) (nm_r (nI_1 l) (ih (l + 1) met (by omega) hm q0 q1))
theorem xx_num4 {post : Int32 → Prop} {n : Nat} {g : Nat → Nat → Nat} (hn : n ≤ 5) (hI : ps_XI im n g) (hg : ps_Gd n g) : ∀ d p met, p + d = n → met ≤ n → post (ps_b (ps_tP g d p met)) → wX_isNumberedAsMet_4 post (nI n) (nI L) (nI c) tc w ra le im tk nn mp fs ss (d + 1) (nI met) (nI p) := by
  intro d
  induction d with
  | zero =>
    intro p met hp hm h
    obtain rfl : p = n := by omega
    exact br_t (nI_le (by omega) (by omega)) h
  | succ d ih =>
    intro p met hp hm h
    refine br_f (nI_ge (by omega) (by omega)) ?_
    by_cases z : met ≤ p
    · rw [ps_tP, if_pos z] at h
      exact br_f (nI_nlt z (by omega)) h
    · rw [ps_tP, if_neg z] at h
      refine br_t (nI_lt (by omega) (by omega)) ⟨5, xx_num19 hn (by omega) hI hg 4 0 met rfl hm (fun e => ?_) (fun m e hm' => ?_)⟩
      · rw [e] at h
        exact h
      · rw [e] at h
        exact ih (p + 1) m (by omega) hm' h
theorem xx_num {post : Int32 → Prop} {n : Nat} {g : Nat → Nat → Nat} (h0 : 0 < n) (hn : n ≤ 5) (hI : ps_XI im n g) (hg : ps_Gd n g) (h : post (ps_b (ps_isT n g))) : wpX_isNumberedAsMet post (nI L, nI c, tc, w, ra, le, im, tk, nn, mp, fs, ss) (nI n) :=
  ⟨n + 1, xx_num4 hn hI hg n 0 1 (by omega) (by omega) h⟩
theorem xx_wkR7 {post : Int32 → Prop} {n k p : Nat} {g : Nat → Nat → Nat} {ln : Nat → Nat} {rl : Nat → Nat → Nat} (hn : n ≤ 5) (hI : ps_XI im n g) (hg : ps_Gd n g) (hr : ps_Ru c ln rl ra le) (hc : c ≤ 4) (hk : k < c) (hp : p < n) (K : post (nI (ps_wk g (rl k) (ln k) p))) : ∀ d i, i + d = ln k → wX_walk__relatorLetters_7 post (nI (8 * k)) (nI (ln k)) (nI L) (nI c) tc w ra le im tk nn mp fs ss (d + 1) (nI (ps_wk g (rl k) i p)) (nI i) := by
  have gk := hr k hk
  have g1 := gk.1
  intro d
  induction d with
  | zero =>
    intro i hi
    obtain rfl : i = ln k := by omega
    exact br_t (nI_le (by omega) (by omega)) K
  | succ d ih =>
    intro i hi
    have hl := gk.2.2 i (by omega)
    have hat := ps_wk_lt (r := rl k) hg i p (fun j hj => (gk.2.2 j (by omega)).1) hp
    have er : ra (nI (8 * k) + nI i).toNatClampNeg = nI (rl k i) := ps_rd (nI_add _ _) (by omega) hl.2
    have ex : nI (ps_wk g (rl k) i p) * 4 + ra (nI (8 * k) + nI i).toNatClampNeg = nI (4 * ps_wk g (rl k) i p + rl k i) := by rw [er]; exact ps_ix4 _ _
    have h4 := hl.1
    exact br_f (nI_ge (by omega) (by omega)) ⟨pk_in (8 * k + i) 32 (by omega) (nI_add _ _), ⟨pk_in (4 * ps_wk g (rl k) i p + rl k i) 20 (by omega) ex, nm_r (e' := nI (ps_wk g (rl k) (i + 1) p)) (ps_rd ex (by omega) (hI _ hl.1 _ hat)) (nm_r (nI_1 i) (ih (i + 1) (by omega)))⟩⟩
theorem xx_walkR {post : Int32 → Prop} {n k p : Nat} {g : Nat → Nat → Nat} {ln : Nat → Nat} {rl : Nat → Nat → Nat} (hn : n ≤ 5) (hI : ps_XI im n g) (hg : ps_Gd n g) (hr : ps_Ru c ln rl ra le) (hc : c ≤ 4) (hk : k < c) (hp : p < n) (K : post (nI (ps_wk g (rl k) (ln k) p))) : wpX_walk__relatorLetters post (nI L, nI c, tc, w, ra, le, im, tk, nn, mp, fs, ss) (nI k * 8) (le (nI k).toNatClampNeg) (nI p) := by
  rw [ps_m8, ps_rd rfl (by omega) (hr k hk).2.1]
  exact ⟨ln k + 1, xx_wkR7 hn hI hg hr hc hk hp K (ln k) 0 (by omega)⟩
theorem xx_rh12 {post J : Int32 → Prop} {n k : Nat} {g : Nat → Nat → Nat} {ln : Nat → Nat} {rl : Nat → Nat → Nat} (hn : n ≤ 5) (hI : ps_XI im n g) (hg : ps_Gd n g) (hr : ps_Ru c ln rl ra le) (hc : c ≤ 4) (hk : k < c) (k0 : (∃ q, q < n ∧ ps_wk g (rl k) (ln k) q ≠ q) → post 0) (k1 : (∀ q, q < n → ps_wk g (rl k) (ln k) q = q) → J (nI (k + 1))) : ∀ d p, p + d = n → (∀ q, q < p → ps_wk g (rl k) (ln k) q = q) → wX_relatorsHold_12 post J (nI n) (nI k) (nI L) (nI c) tc w ra le im tk nn mp fs ss (d + 1) (nI p) := by
  intro d
  induction d with
  | zero =>
    intro p hp h
    obtain rfl : p = n := by omega
    exact br_t (nI_le (by omega) (by omega)) (nm_r (nI_1 k) (k1 h))
  | succ d ih =>
    intro p hp h
    have hat := ps_wk_lt (r := rl k) hg (ln k) p (fun j hj => ((hr k hk).2.2 j hj).1) (by omega)
    refine br_f (nI_ge (by omega) (by omega)) ⟨vp_in_nI (by omega) (by decide), xx_walkR hn hI hg hr hc hk (by omega) ?_⟩
    by_cases z : ps_wk g (rl k) (ln k) p = p
    · exact br_t (by rw [z]) (nm_r (nI_1 p) (ih (p + 1) (by omega) (lt_s h z)))
    · exact br_f (fun q => z ((nI_eq (by omega) (by omega)).mp q)) (k0 ⟨p, by omega, z⟩)
theorem xx_rh2 {post : Int32 → Prop} {n : Nat} {g : Nat → Nat → Nat} {ln : Nat → Nat} {rl : Nat → Nat → Nat} (hn : n ≤ 5) (hI : ps_XI im n g) (hg : ps_Gd n g) (hr : ps_Ru c ln rl ra le) (hc : c ≤ 4) (K : post (ps_b (ps_hb n c ln rl g))) : ∀ d k, k + d = c → (∀ k', k' < k → ∀ q, q < n → ps_wk g (rl k') (ln k') q = q) → wX_relatorsHold_2 post (nI n) (nI L) (nI c) tc w ra le im tk nn mp fs ss (d + 1) (nI k) := by
  intro d
  induction d with
  | zero =>
    intro k hk h
    obtain rfl : k = c := by omega
    have e : ps_hb n k ln rl g = true := decide_eq_true h
    rw [e] at K
    exact br_t (nI_le (by omega) (by omega)) K
  | succ d ih =>
    intro k hk h
    refine br_f (nI_ge (by omega) (by omega)) ⟨n + 1, xx_rh12 hn hI hg hr hc (by omega) (fun hx => ?_) (fun hx => ih (k + 1) (by omega) (lt_s h hx)) n 0 (by omega) (fun q hq => by omega)⟩
    obtain ⟨q, hq, hne⟩ := hx
    have e : ps_hb n c ln rl g = false := decide_eq_false (fun hh => hne (hh k (by omega) q hq))
    rw [e] at K
    exact K
theorem xx_rh {post : Int32 → Prop} {n : Nat} {g : Nat → Nat → Nat} {ln : Nat → Nat} {rl : Nat → Nat → Nat} (hn : n ≤ 5) (hI : ps_XI im n g) (hg : ps_Gd n g) (hr : ps_Ru c ln rl ra le) (hc : c ≤ 4) (K : post (ps_b (ps_hb n c ln rl g))) : wpX_relatorsHold post (nI L, nI c, tc, w, ra, le, im, tk, nn, mp, fs, ss) (nI n) :=
  ⟨c + 1, xx_rh2 hn hI hg hr hc K c 0 (by omega) (fun k hk => by omega)⟩
theorem xx_koi5 {post : Int64 → Prop} {n : Nat} {g : Nat → Nat → Nat} (hn : n ≤ 5) (hI : ps_XI im n g) (hg : ps_Gd n g) (K : post (lN (ps_ky n g))) : ∀ d i, i + d = 4 * n → wX_keyOfImages_5 post (nI n) (nI L) (nI c) tc w ra le im tk nn mp fs ss (d + 1) (lN (ps_kf 8 (ps_dg g) i)) (nI i) := by
  intro d
  induction d with
  | zero =>
    intro i hi
    obtain rfl : i = 4 * n := by omega
    exact br_t (by rw [ps_m4]; exact nI_le (by omega) (by omega)) K
  | succ d ih =>
    intro i hi
    have hd := ps_dg_lt hg i (by omega)
    have ei : im i = nI (ps_dg g i) := by
      have h := hI (i % 4) (by omega) (i / 4) (by omega)
      rw [show 4 * (i / 4) + i % 4 = i by omega] at h
      exact h
    refine br_f (by rw [ps_m4]; exact nI_ge (by omega) (by omega)) ⟨vp_in_nI (by omega) (by decide), nm_r (e' := lN (ps_kf 8 (ps_dg g) (i + 1))) ?_ (nm_r (nI_1 i) (ih (i + 1) (by omega)))⟩
    rw [ps_rd rfl (by omega) ei, ps_shl3 _ (by omega), ps_kf]
theorem xx_koi {post : Int64 → Prop} {n : Nat} {g : Nat → Nat → Nat} (hn : n ≤ 5) (hI : ps_XI im n g) (hg : ps_Gd n g) (K : post (lN (ps_ky n g))) : wpX_keyOfImages post (nI L, nI c, tc, w, ra, le, im, tk, nn, mp, fs, ss) (nI n) := ⟨4 * n + 1, xx_koi5 hn hI hg K (4 * n) 0 (by omega)⟩
end
