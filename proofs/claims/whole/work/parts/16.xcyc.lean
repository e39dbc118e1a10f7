/-! the component: cyclic -/
def ps_F (gen : Nat) (ln : Nat → Nat) (rl : Nat → Nat → Nat) (k : Nat) : Int := ps_su gen (rl k) (ln k)
theorem ps_F_b {c gen : Nat} {ln : Nat → Nat} {rl : Nat → Nat → Nat} {ra le : Nat → Int32} (hr : ps_Ru c ln rl ra le) {k : Nat} (hk : k < c) : -8 ≤ ps_F gen ln rl k ∧ ps_F gen ln rl k ≤ 8 := by
  have a := ps_su_b gen (rl k) (ln k)
  have b := (hr k hk).1
  rw [ps_F]
  omega
theorem ps_gx {gen : Nat} (hg : gen = 0 ∨ gen = 2) : nI gen ^^^ 1 = nI (gen + 1) := by rcases hg with rfl | rfl <;> decide
theorem ps_xy_b {x y m : Nat} {F S : Int} (hm : m ≤ 1000) (hx : x < m) (hy : y < m) (hF : -8 ≤ F ∧ F ≤ 8) (hS : -8 ≤ S ∧ S ≤ 8) : -1000000 ≤ (x : Int) * F + (y : Int) * S ∧ (x : Int) * F + (y : Int) * S ≤ 1000000 := by
  have a := ps_xF (x := x) (by omega) hF.1 hF.2
  have b := ps_xF (x := y) (by omega) hS.1 hS.2
  omega
section
variable {L c : Nat} {tc : Int32} {w ra le im nn mp fs ss : Nat → Int32} {tk : Nat → Int64}
variable {wn ln : Nat → Nat} {rl : Nat → Nat → Nat}
theorem xx_sur5 {post : Int32 → Prop} {k gen : Nat} (hg : gen = 0 ∨ gen = 2) (hc : c ≤ 4) (hr : ps_Ru c ln rl ra le) (hk : k < c) (K : post (ps_iI (ps_F gen ln rl k))) : ∀ d i, i + d = ln k → wX_surplus_5 post (nI k) (nI gen) (nI L) (nI c) tc w ra le im tk nn mp fs ss (d + 1) (ps_iI (ps_su gen (rl k) i)) (nI i) := by
  have g := hr k hk
  have g1 := g.1
  have v4 : vp_in (nI k) 4 := vp_in_nI (by omega) (by decide)
  have el : le (nI k).toNatClampNeg = nI (ln k) := ps_rd rfl (by omega) g.2.1
  have hg2 : gen ≤ 2 := by omega
  intro d
  induction d with
  | zero =>
    intro i hi
    obtain rfl : i = ln k := by omega
    exact ⟨v4, br_t (by rw [el]; exact nI_le (by omega) (by omega)) K⟩
  | succ d ih =>
    intro i hi
    have hl := g.2.2 i (by omega)
    have h4 := hl.1
    have hq := ih (i + 1) (by omega)
    rw [ps_su] at hq
    refine ⟨v4, br_f (by rw [el]; exact nI_ge (by omega) (by omega)) ⟨pk_in (8 * k + i) 32 (by omega) (ps_ix8 k i), nm_r (e' := nI (rl k i)) (ps_rd (ps_ix8 k i) (by omega) hl.2) ?_⟩⟩
    by_cases z : rl k i = gen
    · rw [if_pos z] at hq
      refine br_t (by rw [z]) (nm_r (ps_iI_inc _) (br_f ?_ (nm_r (nI_1 i) hq)))
      rw [ps_gx hg]
      exact fun q => absurd ((nI_eq (by omega) (by omega)).mp q) (by omega)
    · rw [if_neg z] at hq
      refine br_f (fun q => z ((nI_eq (by omega) (by omega)).mp q)) ?_
      by_cases z2 : rl k i = gen + 1
      · rw [if_pos z2] at hq
        exact br_t (by rw [ps_gx hg, z2]) (nm_r (ps_iI_dec _) (nm_r (nI_1 i) hq))
      · rw [if_neg z2] at hq
        refine br_f ?_ (nm_r (nI_1 i) hq)
        rw [ps_gx hg]
        exact fun q => z2 ((nI_eq (by omega) (by omega)).mp q)
theorem xx_sur {post : Int32 → Prop} {k gen : Nat} (hg : gen = 0 ∨ gen = 2) (hc : c ≤ 4) (hr : ps_Ru c ln rl ra le) (hk : k < c) (K : post (ps_iI (ps_F gen ln rl k))) : wpX_surplus post (nI L, nI c, tc, w, ra, le, im, tk, nn, mp, fs, ss) (nI k) (nI gen) :=
  ⟨ln k + 1, xx_sur5 hg hc hr hk K (ln k) 0 (by omega)⟩
theorem xx_sums2 {post : SX → Prop} (hc : c ≤ 4) (hr : ps_Ru c ln rl ra le) (K : ∀ fs' ss', (∀ k, k < c → fs' k = ps_iI (ps_F 0 ln rl k) ∧ ss' k = ps_iI (ps_F 2 ln rl k)) → post (nI L, nI c, tc, w, ra, le, im, tk, nn, mp, fs', ss')) : ∀ d k fs' ss', k + d = c → (∀ q, q < k → fs' q = ps_iI (ps_F 0 ln rl q) ∧ ss' q = ps_iI (ps_F 2 ln rl q)) → wX_sumRelators_2 post (nI L) (nI c) tc (d + 1) (nI k) w ra le im tk nn mp fs' ss' := by
  intro d
  induction d with
  | zero =>
    intro k fs' ss' hk h
    obtain rfl : k = c := by omega
    exact br_t (nI_le (by omega) (by omega)) (K fs' ss' h)
  | succ d ih =>
    intro k fs' ss' hk h
    have v4 : vp_in (nI k) 4 := vp_in_nI (by omega) (by decide)
    refine br_f (nI_ge (by omega) (by omega)) (xx_sur (gen := 0) (Or.inl rfl) hc hr (by omega) ⟨v4, nm_r (e' := upd fs' k (ps_iI (ps_F 0 ln rl k))) (ps_wr rfl (by omega) rfl) (xx_sur (gen := 2) (Or.inr rfl) hc hr (by omega) ⟨v4, nm_r (e' := upd ss' k (ps_iI (ps_F 2 ln rl k))) (ps_wr rfl (by omega) rfl) (nm_r (nI_1 k) (ih (k + 1) _ _ (by omega) (fun q hq => ?_)))⟩)⟩)
    by_cases e : q = k
    · subst e
      exact ⟨pk_us, pk_us⟩
    · rw [pk_un e, pk_un e]
      exact h q (by omega)
theorem xx_sad3 {post : Int32 → Prop} {m x y : Nat} (h0 : 0 < m) (hm : m ≤ 1000) (hx : x < m) (hy : y < m) (hc : c ≤ 4) (hr : ps_Ru c ln rl ra le) (hs : ∀ k, k < c → fs k = ps_iI (ps_F 0 ln rl k) ∧ ss k = ps_iI (ps_F 2 ln rl k)) (K : post (ps_b (ps_cp c m (ps_F 0 ln rl) (ps_F 2 ln rl) x y))) : ∀ d k, k + d = c → (∀ q, q < k → (m : Int) ∣ (x : Int) * ps_F 0 ln rl q + (y : Int) * ps_F 2 ln rl q) → wX_sumsAreDivided_3 post (nI m) (nI x) (nI y) (nI L) (nI c) tc w ra le im tk nn mp fs ss (d + 1) (nI k) := by
  intro d
  induction d with
  | zero =>
    intro k hk h
    obtain rfl : k = c := by omega
    have e : ps_cp k m (ps_F 0 ln rl) (ps_F 2 ln rl) x y = true := decide_eq_true h
    rw [e] at K
    exact br_t (nI_le (by omega) (by omega)) K
  | succ d ih =>
    intro k hk h
    have v4 : vp_in (nI k) 4 := vp_in_nI (by omega) (by decide)
    have hsk := hs k (by omega)
    have e1 : fs (nI k).toNatClampNeg = ps_iI (ps_F 0 ln rl k) := ps_rd rfl (by omega) hsk.1
    have e2 : ss (nI k).toNatClampNeg = ps_iI (ps_F 2 ln rl k) := ps_rd rfl (by omega) hsk.2
    have b := ps_xy_b hm hx hy (ps_F_b (gen := 0) hr (show k < c by omega)) (ps_F_b (gen := 2) hr (show k < c by omega))
    have ez := ps_dv hm b.1 b.2
    rw [← ps_xFyS] at ez
    refine br_f (nI_ge (by omega) (by omega)) ⟨v4, ⟨v4, ⟨nI_ne0 h0 (by omega), ?_⟩⟩⟩
    rw [e1, e2]
    by_cases z : (m : Int) ∣ (x : Int) * ps_F 0 ln rl k + (y : Int) * ps_F 2 ln rl k
    · exact br_t (ez.mpr z) (nm_r (nI_1 k) (ih (k + 1) (by omega) (lt_s h z)))
    · have e : ps_cp c m (ps_F 0 ln rl) (ps_F 2 ln rl) x y = false := decide_eq_false (fun hh => z (hh k (by omega)))
      rw [e] at K
      exact br_f (fun q => z (ez.mp q)) K
theorem xx_cy30 {post : Int32 → SX → Prop} {J : Int32 → Int32 → Prop} {m x : Nat} (h0 : 0 < m) (hm : m ≤ 1000) (hx : x < m) (hc : c ≤ 4) (hr : ps_Ru c ln rl ra le) (hs : ∀ k, k < c → fs k = ps_iI (ps_F 0 ln rl k) ∧ ss k = ps_iI (ps_F 2 ln rl k)) (KJ : J (nI (ps_cc (ps_cp c m (ps_F 0 ln rl) (ps_F 2 ln rl)) m (x + 1))) (nI (x + 1))) : ∀ d y, y + d = m → wX_cyclic_30 post J (nI m) (nI x) (nI L) (nI c) tc w ra le im tk nn mp fs ss (d + 1) (nI (ps_cc (ps_cp c m (ps_F 0 ln rl) (ps_F 2 ln rl)) m x + ps_cn (ps_cp c m (ps_F 0 ln rl) (ps_F 2 ln rl) x) y)) (nI y) := by
  intro d
  induction d with
  | zero =>
    intro y hy
    obtain rfl : y = m := by omega
    exact br_t (nI_le (by omega) (by omega)) (nm_r (nI_1 x) KJ)
  | succ d ih =>
    intro y hy
    have hq := ih (y + 1) (by omega)
    rw [ps_cn] at hq
    refine br_f (nI_ge (by omega) (by omega)) ⟨c + 1, xx_sad3 h0 hm hx (by omega) hc hr hs ?_ c 0 (by omega) (fun q hq => by omega)⟩
    cases e : ps_cp c m (ps_F 0 ln rl) (ps_F 2 ln rl) x y with
    | false =>
      rw [e] at hq
      exact br_t rfl (nm_r (nI_1 y) hq)
    | true =>
      rw [e] at hq
      exact br_f (by decide) (nm_r (nI_1 _) (nm_r (nI_1 y) hq))
theorem xx_cy22 {post : Int32 → SX → Prop} {m : Nat} (h0 : 0 < m) (hm : m ≤ 1000) (hc : c ≤ 4) (hr : ps_Ru c ln rl ra le) (hs : ∀ k, k < c → fs k = ps_iI (ps_F 0 ln rl k) ∧ ss k = ps_iI (ps_F 2 ln rl k)) (K : post (nI (ps_cc (ps_cp c m (ps_F 0 ln rl) (ps_F 2 ln rl)) m m)) (nI L, nI c, tc, w, ra, le, im, tk, nn, mp, fs, ss)) : ∀ d x, x + d = m → wX_cyclic_22 post (nI m) (nI L) (nI c) tc w ra le im tk nn mp fs ss (d + 1) (nI (ps_cc (ps_cp c m (ps_F 0 ln rl) (ps_F 2 ln rl)) m x)) (nI x) := by
  intro d
  induction d with
  | zero =>
    intro x hx
    obtain rfl : x = m := by omega
    exact br_t (nI_le (by omega) (by omega)) K
  | succ d ih =>
    intro x hx
    exact br_f (nI_ge (by omega) (by omega)) ⟨m + 1, xx_cy30 h0 hm (by omega) hc hr hs (ih (x + 1) (by omega)) m 0 (by omega)⟩
theorem xx_cyclic_b {post : Int32 → SX → Prop} {v : Int32} (h : v < 1 ∨ 1000 < v) (k : post (-1) (nI L, nI c, tc, w, ra, le, im, tk, nn, mp, fs, ss)) : wpX_cyclic post (nI L, nI c, tc, w, ra, le, im, tk, nn, mp, fs, ss) v := by
  by_cases z : v < 1
  · exact br_t z k
  · rcases h with h | h
    · exact absurd h z
    · exact br_f z (br_f (Int32.not_le.mpr h) k)
theorem xx_cyclic_o {post : Int32 → SX → Prop} {m : Nat} (h0 : 0 < m) (hm : m ≤ 1000) (hL : L ≤ 8) (hc : c ≤ 4) (hw : ps_Wo wn w) (hr : ps_Ru c ln rl ra le) (K : ∀ u', xx_OK L c wn ln rl u' → post (nI (ps_cc (ps_cp c m (ps_F 0 ln rl) (ps_F 2 ln rl)) m m)) u') : wpX_cyclic post (nI L, nI c, tc, w, ra, le, im, tk, nn, mp, fs, ss) (nI m) :=
  br_f (nI_nlt (b := 1) (by omega) (by omega)) (br_t (nI_le (b := 1000) hm (by decide)) ⟨c + 1, xx_sums2 hc hr (fun fs' ss' hs => ⟨m + 1, xx_cy22 h0 hm hc hr hs (K _ (xx_mk hL hc hw hr)) m 0 (by omega)⟩) c 0 fs ss (by omega) (fun q hq => by omega)⟩)
end
