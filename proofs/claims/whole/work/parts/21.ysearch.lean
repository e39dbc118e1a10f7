/-! the reference's search, up to the key -/
def ps_cYt (n t : Nat) : List (List Nat) := ((List.range t).filter (ps_fu n)).map (ps_dl n)
theorem ps_cYt_t {n t : Nat} (h : ps_fu n t = true) : ps_cYt n (t + 1) = ps_cYt n t ++ [ps_dl n t] := by
  rw [ps_cYt, ps_cYt, List.range_succ, List.filter_append, List.map_append, List.filter_cons, if_pos h]
  rfl
theorem ps_cYt_f {n t : Nat} (h : ps_fu n t = false) : ps_cYt n (t + 1) = ps_cYt n t := by
  rw [ps_cYt, ps_cYt, List.range_succ, List.filter_append, List.map_append, List.filter_cons, h]
  exact List.append_nil _
theorem ps_cYt_len {n t : Nat} (h0 : 0 < n) (hn : n ≤ 5) (ht : t ≤ n ^ n) : (ps_cYt n t).length ≤ 120 := by
  have h : (ps_cYt n t).length ≤ (ps_cY n).length := by
    rw [ps_cYt, ps_cY, List.length_map, List.length_map]
    exact ((List.range_sublist.mpr ht).filter _).length_le
  have e := ev_cYl h0 hn
  have f := (ev_fa hn).2
  omega
def ps_PA (a : Nat → Int32) (n : Nat) (Lc : List (List Nat)) : Prop := ∀ k, k < Lc.length → ∀ i, i < n → a (5 * k + i) = nI (ps_fn (Lc.getD k []) i)
theorem ps_nn {n : Nat} (hn : n ≤ 5) : n ^ n ≤ 3125 := by
  have : ∀ n, n ≤ 5 → n ^ n ≤ 3125 := by decide
  exact this n hn
theorem ps_ni {n i : Nat} (h0 : 0 < n) (hn : n ≤ 5) (hi : i ≤ n) : n ^ i ≤ 3125 := Nat.le_trans (Nat.pow_le_pow_right h0 hi) (ps_nn hn)
theorem ps_shn {n : Nat} (hn : n < 32) : (1 : Int32) <<< (nI n &&& 31) = nI (2 ^ n) := by
  have h := pk_shlN (n := 1) (nI n &&& 31) n (s_l n hn) (by rw [Nat.one_mul]; exact Nat.pow_lt_pow_right (by decide) hn)
  rw [Nat.one_mul] at h
  exact h
def ps_Rw (a : Nat → Int32) (n o : Nat) (f : List Nat) : Prop := ∀ p, p < n → a (5 * o + p) = nI (ps_fn f p) ∧ a (5 * (o + 1) + p) = nI (ps_iv (ps_fn f) n p)
theorem ps_Rw_YI {a : Nat → Int32} {n : Nat} {f h : List Nat} (hf : ps_Rw a n 0 f) (hh : ps_Rw a n 2 h) : ps_YI a n (ps_ac n f h) := by
  intro l hl p hp
  match l, hl with
  | 0, _ => exact (hf p hp).1
  | 1, _ => exact (hf p hp).2
  | 2, _ => exact (hh p hp).1
  | 3, _ => exact (hh p hp).2
theorem ps_5k (m : Nat) {v : Nat} (hv : v < 2 ^ 31) : 5 * lN m + (nI v).toInt64 = lN (5 * m + v) := by
  rw [show (5 : Int64) = lN 5 from rfl, lN_mul, nI_l hv, lN_add]
section
variable {L c : Nat} {mn : Int32} {w le ra fi se pm im ot od pl kn an tb : Nat → Int32} {ks : Nat → Int64}
variable {ln : Nat → Nat} {rl : Nat → Nat → Nat}
theorem yy_lp40 {post : SY → Prop} {J : Int32 → Int32 → (Nat → Int32) → (Nat → Int32) → (Nat → Int32) → (Nat → Int32) → (Nat → Int32) → (Nat → Int32) → (Nat → Int32) → (Nat → Int32) → (Nat → Int32) → (Nat → Int32) → (Nat → Int32) → (Nat → Int32) → (Nat → Int32) → (Nat → Int64) → Prop} {n code : Nat} {x2 : Int32} (h0 : 0 < n) (hn : n ≤ 5) (hc : code < n ^ n) (KJ : ∀ pm', ps_PA pm' n (ps_cYt n (code + 1)) → J (nI (code + 1)) (nI (ps_cYt n (code + 1)).length) w le ra fi se pm' im ot od pl kn an tb ks) : ∀ d i pm', i + d = n → ps_PA pm' n (ps_cYt n code) → (∀ j, j < i → pm' (5 * (ps_cYt n code).length + j) = nI (code / n ^ j % n)) → wY_listPermutations_40 post J (nI n) x2 (nI code) (nI L) (nI c) (nI (ps_cYt n code).length) (d + 1) (nI (code / n ^ i)) (nI (ps_mk n code i)) (nI i) w le ra fi se pm' im ot od pl kn an tb ks := by
  have hm := ps_cYt_len h0 hn (show code ≤ n ^ n by omega)
  have hcb := ps_nn hn
  intro d
  induction d with
  | zero =>
    intro i pm' hi hP hR
    obtain rfl : i = n := by omega
    have e : ((1 : Int32) <<< (nI i &&& 31)) - 1 = nI (2 ^ i - 1) := by rw [ps_shn (by omega)]; exact ps_m1 (Nat.two_pow_pos i)
    have hk := ps_mk_lt h0 hn code i
    have h2 : 2 ^ i ≤ 2 ^ 5 := Nat.pow_le_pow_right (by decide) hn
    refine br_t (nI_le (by omega) (by omega)) ?_
    rw [e]
    cases hf : ps_fu i code with
    | true =>
      have he : ps_mk i code i = 2 ^ i - 1 := of_decide_eq_true hf
      have kj := KJ pm'
      rw [ps_cYt_t hf, List.length_append, List.length_singleton] at kj
      refine br_t (by rw [he]) (nm_r (nI_1 _) (nm_r (nI_1 code) (kj ?_)))
      intro k hk j hj
      by_cases z : k < (ps_cYt i code).length
      · rw [ps_gA z]
        exact hP k z j hj
      · obtain rfl : k = (ps_cYt i code).length := by simp at hk; omega
        have g := ps_gB (A := ps_cYt i code) (B := [ps_dl i code]) (i := 0) (d := [])
        rw [Nat.add_zero] at g
        rw [g, hR j hj]
        exact congrArg nI (ps_gR (f := fun x => code / i ^ x % i) (d := 0) hj).symm
    | false =>
      have he : ¬ ps_mk i code i = 2 ^ i - 1 := of_decide_eq_false hf
      have kj := KJ pm'
      rw [ps_cYt_f hf] at kj
      exact br_f (fun q => he ((nI_eq (by omega) (by omega)).mp q)) (nm_r (nI_1 code) (kj hP))
  | succ d ih =>
    intro i pm' hi hP hR
    have hq : code / n ^ i ≤ code := Nat.div_le_self _ _
    have hd : code / n ^ i % n < n := Nat.mod_lt _ h0
    have nz : ¬ nI n = 0 := nI_ne0 h0 (by omega)
    have er : nI (code / n ^ i) - nI (code / n ^ i) / nI n * nI n = nI (code / n ^ i % n) := pk_rem (by omega) h0 (by omega)
    have ix := ps_5x (ps_cYt n code).length i
    refine br_f (nI_ge (by omega) (by omega)) ⟨nz, ⟨pk_in (5 * (ps_cYt n code).length + i) 605 (by omega) ix, nm_r (e' := upd pm' (5 * (ps_cYt n code).length + i) (nI (code / n ^ i % n))) (ps_wr ix (by omega) er) ⟨nz, nm_r (e' := nI (ps_mk n code (i + 1))) ?_ ⟨nz, nm_r (e' := nI (code / n ^ (i + 1))) ?_ (nm_r (nI_1 i) (ih (i + 1) _ (by omega) ?_ ?_))⟩⟩⟩⟩
    · rw [er, ps_shn (by omega), ps_or, ps_mk]
    · rw [pk_div (by omega) h0 (by omega), Nat.div_div_eq_div_mul, Nat.pow_succ]
    · intro k hk j hj
      rw [pk_un (by omega)]
      exact hP k hk j hj
    · intro j hj
      by_cases e : j = i
      · subst e
        exact pk_us
      · rw [pk_un (by omega)]
        exact hR j (by omega)
theorem yy_lp26 {post : SY → Prop} {n : Nat} (h0 : 0 < n) (hn : n ≤ 5) (K : ∀ pm', ps_PA pm' n (ps_cY n) → post (nI L, nI c, nI (ps_cY n).length, w, le, ra, fi, se, pm', im, ot, od, pl, kn, an, tb, ks)) : ∀ d code pm', code + d = n ^ n → ps_PA pm' n (ps_cYt n code) → wY_listPermutations_26 post (nI n) (nI (n ^ n)) (nI L) (nI c) (d + 1) (nI code) (nI (ps_cYt n code).length) w le ra fi se pm' im ot od pl kn an tb ks := by
  have hcb := ps_nn hn
  intro d
  induction d with
  | zero =>
    intro code pm' hc hP
    obtain rfl : code = n ^ n := by omega
    exact br_t (nI_le (by omega) (by omega)) (K pm' hP)
  | succ d ih =>
    intro code pm' hc hP
    have h := yy_lp40 (post := post) (J := wY_listPermutations_26 post (nI n) (nI (n ^ n)) (nI L) (nI c) (d + 1)) (x2 := nI (n ^ n)) (L := L) (c := c) (w := w) (le := le) (ra := ra) (fi := fi) (se := se) (im := im) (ot := ot) (od := od) (pl := pl) (kn := kn) (an := an) (tb := tb) (ks := ks) h0 hn (show code < n ^ n by omega) (fun pm' h => ih (code + 1) pm' (by omega) h) n 0 pm' (by omega) hP (fun j hj => by omega)
    rw [Nat.pow_zero, Nat.div_one] at h
    exact br_f (nI_ge (by omega) (by omega)) ⟨n + 1, h⟩
theorem yy_lp9 {post : SY → Prop} {n : Nat} (h0 : 0 < n) (hn : n ≤ 5) (K : ∀ pm', ps_PA pm' n (ps_cY n) → post (nI L, nI c, nI (ps_cY n).length, w, le, ra, fi, se, pm', im, ot, od, pl, kn, an, tb, ks)) : ∀ d i, i + d = n → wY_listPermutations_9 post (nI n) (nI L) (nI c) (nI 0) w le ra fi se pm im ot od pl kn an tb ks (d + 1) (nI (n ^ i)) (nI i) := by
  intro d
  induction d with
  | zero =>
    intro i hi
    obtain rfl : i = n := by omega
    exact br_t (nI_le (by omega) (by omega)) ⟨i ^ i + 1, yy_lp26 h0 hn K (i ^ i) 0 pm (by omega) (fun k hk => absurd hk (Nat.not_lt_zero k))⟩
  | succ d ih =>
    intro i hi
    exact br_f (nI_ge (by omega) (by omega)) (nm_r (e' := nI (n ^ (i + 1))) (pk_mul _ _) (nm_r (nI_1 i) (ih (i + 1) (by omega))))
theorem yy_lperm {post : SY → Prop} {n : Nat} (h0 : 0 < n) (hn : n ≤ 5) (K : ∀ pm', ps_PA pm' n (ps_cY n) → post (nI L, nI c, nI (ps_cY n).length, w, le, ra, fi, se, pm', im, ot, od, pl, kn, an, tb, ks)) : wpY_listPermutations post (nI L, nI c, mn, w, le, ra, fi, se, pm, im, ot, od, pl, kn, an, tb, ks) (nI n) := ⟨n + 1, yy_lp9 h0 hn K n 0 (by omega)⟩
theorem yy_take3 {post : SY → Prop} {n o a : Nat} {f : List Nat} {im0 : Nat → Int32} (hn : n ≤ 5) (ho : o = 0 ∨ o = 2) (ha : a < 120) (hP : ps_Pm n f = true) (hpm : ∀ p, p < n → pm (5 * a + p) = nI (ps_fn f p)) (K : ∀ im', (∀ p, p < n → im' (5 * o + p) = nI (ps_fn f p) ∧ im' (5 * (o + 1) + ps_fn f p) = nI p) → (∀ j, ¬ (5 * o ≤ j ∧ j < 5 * o + 10) → im' j = im0 j) → post (nI L, nI c, mn, w, le, ra, fi, se, pm, im', ot, od, pl, kn, an, tb, ks)) : ∀ d i im', i + d = n → (∀ p, p < i → im' (5 * o + p) = nI (ps_fn f p) ∧ im' (5 * (o + 1) + ps_fn f p) = nI p) → (∀ j, ¬ (5 * o ≤ j ∧ j < 5 * o + 10) → im' j = im0 j) → wY_take_3 post (nI o) (nI a) (nI n) (nI L) (nI c) mn (d + 1) (nI i) w le ra fi se pm im' ot od pl kn an tb ks := by
  have ho2 : o ≤ 2 := by omega
  intro d
  induction d with
  | zero =>
    intro i im' hi h1 h2
    obtain rfl : i = n := by omega
    exact br_t (nI_le (by omega) (by omega)) (K im' h1 h2)
  | succ d ih =>
    intro i im' hi h1 h2
    have hf := ps_Pm_iff hP i (by omega)
    have hf1 := hf.1
    have e5 : ((5 * nI o) + 5) + nI (ps_fn f i) = nI (5 * (o + 1) + ps_fn f i) := by
      rw [ps_5m, show (5 : Int32) = nI 5 from rfl, nI_add, nI_add]
      congr 1
    refine br_f (nI_ge (by omega) (by omega)) ⟨pk_in (5 * a + i) 605 (by omega) (ps_5x a i), nm_r (e' := nI (ps_fn f i)) (ps_rd (ps_5x a i) (by omega) (hpm i (by omega))) ⟨pk_in (5 * o + i) 20 (by omega) (ps_5x o i), nm_r (e' := upd im' (5 * o + i) (nI (ps_fn f i))) (ps_wr (ps_5x o i) (by omega) rfl) ⟨pk_in (5 * (o + 1) + ps_fn f i) 20 (by omega) e5, nm_r (e' := upd (upd im' (5 * o + i) (nI (ps_fn f i))) (5 * (o + 1) + ps_fn f i) (nI i)) (ps_wr e5 (by omega) rfl) (nm_r (nI_1 i) (ih (i + 1) _ (by omega) ?_ ?_))⟩⟩⟩
    · intro p hp
      have hfp := ps_Pm_iff hP p (by omega)
      have hfp1 := hfp.1
      by_cases e : p = i
      · subst e
        rw [pk_un (by omega), pk_us]
        exact ⟨rfl, pk_us⟩
      · have hne : ps_fn f p ≠ ps_fn f i := fun q => e (hfp.2.1.symm.trans ((congrArg _ q).trans hf.2.1))
        rw [pk_un (by omega), pk_un (by omega), pk_un (by omega), pk_un (by omega)]
        exact h1 p (by omega)
    · intro j hj
      rw [pk_un (by omega), pk_un (by omega)]
      exact h2 j hj
theorem yy_take {post : SY → Prop} {n o a : Nat} {f : List Nat} (hn : n ≤ 5) (ho : o = 0 ∨ o = 2) (ha : a < 120) (hP : ps_Pm n f = true) (hpm : ∀ p, p < n → pm (5 * a + p) = nI (ps_fn f p)) (K : ∀ im', ps_Rw im' n o f → (∀ j, ¬ (5 * o ≤ j ∧ j < 5 * o + 10) → im' j = im j) → post (nI L, nI c, mn, w, le, ra, fi, se, pm, im', ot, od, pl, kn, an, tb, ks)) : wpY_take post (nI L, nI c, mn, w, le, ra, fi, se, pm, im, ot, od, pl, kn, an, tb, ks) (nI o) (nI a) (nI n) := by
  refine ⟨n + 1, yy_take3 (im0 := im) hn ho ha hP hpm (fun im' h1 h2 => K im' (fun p hp => ⟨(h1 p hp).1, ?_⟩) h2) n 0 im (by omega) (fun p hp => by omega) (fun _ _ => rfl)⟩
  have h := ps_Pm_iff hP p hp
  have m := (h1 _ h.2.2.1).2
  rw [h.2.2.2] at m
  exact m
theorem yy_h23 {post J2 J12 : Int32 → Prop} {n k p : Nat} {x1 : Int32} {g : Nat → Nat → Nat} (hn : n ≤ 5) (hI : ps_YI im n g) (hg : ps_Gd n g) (hr : ps_Ru c ln rl ra le) (hc : c ≤ 4) (hk : k < c) (hp : p < n) (k0 : ps_wk g (rl k) (ln k) p ≠ p → post 0) (k1 : ps_wk g (rl k) (ln k) p = p → J12 (nI (p + 1))) : ∀ d i, i + d = ln k → wY_holds_23 post J2 J12 x1 (nI k) (nI p) (nI L) (nI c) mn w le ra fi se pm im ot od pl kn an tb ks (d + 1) (nI (ps_wk g (rl k) i p)) (nI i) := by
  have gk := hr k hk
  have g1 := gk.1
  have v4 : vp_in (nI k) 4 := vp_in_nI (by omega) (by decide)
  have el : le (nI k).toNatClampNeg = nI (ln k) := ps_rd rfl (by omega) gk.2.1
  intro d
  induction d with
  | zero =>
    intro i hi
    obtain rfl : i = ln k := by omega
    have hat := ps_wk_lt (r := rl k) hg (ln k) p (fun j hj => (gk.2.2 j hj).1) hp
    refine ⟨v4, br_t (by rw [el]; exact nI_le (by omega) (by omega)) ?_⟩
    by_cases z : ps_wk g (rl k) (ln k) p = p
    · exact br_t (by rw [z]) (nm_r (nI_1 p) (k1 z))
    · exact br_f (fun q => z ((nI_eq (by omega) (by omega)).mp q)) (k0 z)
  | succ d ih =>
    intro i hi
    have hl := gk.2.2 i (by omega)
    have h4 := hl.1
    have hat := ps_wk_lt (r := rl k) hg i p (fun j hj => (gk.2.2 j (by omega)).1) hp
    have er : ra ((8 * nI k) + nI i).toNatClampNeg = nI (rl k i) := ps_rd (ps_8x k i) (by omega) hl.2
    have ex : (5 * ra ((8 * nI k) + nI i).toNatClampNeg) + nI (ps_wk g (rl k) i p) = nI (5 * rl k i + ps_wk g (rl k) i p) := by rw [er]; exact ps_5x _ _
    exact ⟨v4, br_f (by rw [el]; exact nI_ge (by omega) (by omega)) ⟨pk_in (8 * k + i) 32 (by omega) (ps_8x k i), ⟨pk_in (5 * rl k i + ps_wk g (rl k) i p) 20 (by omega) ex, nm_r (e' := nI (ps_wk g (rl k) (i + 1) p)) (ps_rd ex (by omega) (hI _ h4 _ hat)) (nm_r (nI_1 i) (ih (i + 1) (by omega)))⟩⟩⟩
theorem yy_h12 {post J : Int32 → Prop} {n k : Nat} {g : Nat → Nat → Nat} (hn : n ≤ 5) (hI : ps_YI im n g) (hg : ps_Gd n g) (hr : ps_Ru c ln rl ra le) (hc : c ≤ 4) (hk : k < c) (k0 : (∃ q, q < n ∧ ps_wk g (rl k) (ln k) q ≠ q) → post 0) (k1 : (∀ q, q < n → ps_wk g (rl k) (ln k) q = q) → J (nI (k + 1))) : ∀ d p, p + d = n → (∀ q, q < p → ps_wk g (rl k) (ln k) q = q) → wY_holds_12 post J (nI n) (nI k) (nI L) (nI c) mn w le ra fi se pm im ot od pl kn an tb ks (d + 1) (nI p) := by
  intro d
  induction d with
  | zero =>
    intro p hp h
    obtain rfl : p = n := by omega
    exact br_t (nI_le (by omega) (by omega)) (nm_r (nI_1 k) (k1 h))
  | succ d ih =>
    intro p hp h
    exact br_f (nI_ge (by omega) (by omega)) ⟨ln k + 1, yy_h23 hn hI hg hr hc hk (by omega) (fun z => k0 ⟨p, by omega, z⟩) (fun z => ih (p + 1) (by omega) (lt_s h z)) (ln k) 0 (by omega)⟩
theorem yy_h2 {post : Int32 → Prop} {n : Nat} {g : Nat → Nat → Nat} (hn : n ≤ 5) (hI : ps_YI im n g) (hg : ps_Gd n g) (hr : ps_Ru c ln rl ra le) (hc : c ≤ 4) (K : post (ps_b (ps_hb n c ln rl g))) : ∀ d k, k + d = c → (∀ k', k' < k → ∀ q, q < n → ps_wk g (rl k') (ln k') q = q) → wY_holds_2 post (nI n) (nI L) (nI c) mn w le ra fi se pm im ot od pl kn an tb ks (d + 1) (nI k) := by
  intro d
  induction d with
  | zero =>
    intro k hk h
    obtain rfl : k = c := by omega
    have e : ps_hb n k ln rl g = true := decide_eq_true h
    rw [e] at K
    exact br_t (nI_le (by omega) (by omega)) K
  | succ d ih =>
    intro k hk h
    refine br_f (nI_ge (by omega) (by omega)) ⟨n + 1, yy_h12 hn hI hg hr hc (by omega) (fun hx => ?_) (fun hx => ih (k + 1) (by omega) (lt_s h hx)) n 0 (by omega) (fun q hq => by omega)⟩
    obtain ⟨q, hq, hne⟩ := hx
    have e : ps_hb n c ln rl g = false := decide_eq_false (fun hh => hne (hh k (by omega) q hq))
    rw [e] at K
    exact K
theorem yy_holds {post : Int32 → Prop} {n : Nat} {g : Nat → Nat → Nat} (hn : n ≤ 5) (hI : ps_YI im n g) (hg : ps_Gd n g) (hr : ps_Ru c ln rl ra le) (hc : c ≤ 4) (K : post (ps_b (ps_hb n c ln rl g))) : wpY_holds post (nI L, nI c, mn, w, le, ra, fi, se, pm, im, ot, od, pl, kn, an, tb, ks) (nI n) :=
  ⟨c + 1, yy_h2 hn hI hg hr hc K c 0 (by omega) (fun k hk => by omega)⟩
theorem yy_t19 {post : Int32 → Prop} {J : Int32 → Int32 → Prop} {n p : Nat} {g : Nat → Nat → Nat} (hn : n ≤ 5) (hp : p < n) (hI : ps_YI im n g) (hg : ps_Gd n g) : ∀ d l met, l + d = 4 → met ≤ n → (ps_tL g p d l met = none → post 0) → (∀ m, ps_tL g p d l met = some m → m ≤ n → J (nI m) (nI (p + 1))) → wY_isTable_19 post J (nI n) (nI p) (nI L) (nI c) mn w le ra fi se pm im ot od pl kn an tb ks (d + 1) (nI met) (nI l) := by
  intro d
  induction d with
  | zero =>
    intro l met hl hm q0 q1
    obtain rfl : l = 4 := by omega
    exact br_t (nI_le (a := 4) (b := 4) (by decide) (by decide)) (nm_r (nI_1 p) (q1 met rfl hm))
  | succ d ih =>
    intro l met hl hm q0 q1
    have hq := hg l (by omega) p hp
    rw [ps_tL, ps_fc_eq] at q0 q1
    refine br_f (nI_ge (b := 4) (by omega) (by decide)) ⟨pk_in (5 * l + p) 20 (by omega) (ps_5x l p), nm_r (e' := nI (g l p)) (ps_rd (ps_5x l p) (by omega) (hI l (by omega) p hp)) ?_⟩
    by_cases z : met < g l p
    · rw [if_pos z] at q0
      exact br_f (nI_ge z (by omega)) (q0 rfl)
    · rw [if_neg z] at q0 q1
      refine br_t (nI_le (by omega) (by omega)) ?_
      by_cases z2 : g l p = met
      · rw [if_pos z2] at q0 q1
        exact br_t (by rw [z2]) (nm_r (nI_1 met) (nm_r (nI_1 l) (ih (l + 1) (met + 1) (by omega) (by omega) q0 q1)))
      · rw [if_neg z2] at q0 q1
        exact br_f (fun q => z2 ((nI_eq (by omega) (by omega)).mp q)) (nm_r (nI_1 l) (ih (l + 1) met (by omega) hm q0 q1))
theorem yy_t4 {post : Int32 → Prop} {n : Nat} {g : Nat → Nat → Nat} (hn : n ≤ 5) (hI : ps_YI im n g) (hg : ps_Gd n g) : ∀ d p met, p + d = n → met ≤ n → post (ps_b (ps_tP g d p met)) → wY_isTable_4 post (nI n) (nI L) (nI c) mn w le ra fi se pm im ot od pl kn an tb ks (d + 1) (nI met) (nI p) := by
  intro d
  induction d with
  | zero =>
    intro p met hp hm h
    obtain rfl : p = n := by omega
    exact br_t (nI_le (by omega) (by omega)) h
  | succ d ih =>
    intro p met hp hm h
    refine br_f (nI_ge (by omega) (by omega)) ?_
    by_cases z : met ≤ p
    · rw [ps_tP, if_pos z] at h
      exact br_f (nI_nlt z (by omega)) h
    · rw [ps_tP, if_neg z] at h
      refine br_t (nI_lt (by omega) (by omega)) ⟨5, yy_t19 hn (by omega) hI hg 4 0 met rfl hm (fun e => ?_) (fun m e hm' => ?_)⟩
      · rw [e] at h
        exact h
      · rw [e] at h
        exact ih (p + 1) m (by omega) hm' h
theorem yy_isT {post : Int32 → Prop} {n : Nat} {g : Nat → Nat → Nat} (h0 : 0 < n) (hn : n ≤ 5) (hI : ps_YI im n g) (hg : ps_Gd n g) (h : post (ps_b (ps_isT n g))) : wpY_isTable post (nI L, nI c, mn, w, le, ra, fi, se, pm, im, ot, od, pl, kn, an, tb, ks) (nI n) :=
  ⟨n + 1, yy_t4 hn hI hg n 0 1 (by omega) (by omega) h⟩
theorem yy_k14 {post : Int64 → Prop} {J : Int64 → Int32 → Prop} {n p : Nat} {g : Nat → Nat → Nat} (hn : n ≤ 5) (hp : p < n) (hI : ps_YI im n g) (hg : ps_Gd n g) (KJ : J (lN (ps_kf 5 (ps_dg g) (4 * (p + 1)))) (nI (p + 1))) : ∀ d l, l + d = 4 → wY_key_14 post J (nI n) (nI p) (nI L) (nI c) mn w le ra fi se pm im ot od pl kn an tb ks (d + 1) (lN (ps_kf 5 (ps_dg g) (4 * p + l))) (nI l) := by
  intro d
  induction d with
  | zero =>
    intro l hl
    obtain rfl : l = 4 := by omega
    exact br_t (nI_le (a := 4) (b := 4) (by decide) (by decide)) (nm_r (nI_1 p) KJ)
  | succ d ih =>
    intro l hl
    have hv := hg l (by omega) p hp
    refine br_f (nI_ge (b := 4) (by omega) (by decide)) ⟨pk_in (5 * l + p) 20 (by omega) (ps_5x l p), nm_r (e' := lN (ps_kf 5 (ps_dg g) (4 * p + (l + 1)))) ?_ (nm_r (nI_1 l) (ih (l + 1) (by omega)))⟩
    rw [ps_rd (ps_5x l p) (by omega) (hI l (by omega) p hp), ps_5k _ (by omega), ← Nat.add_assoc, ps_kf, ps_dg, show (4 * p + l) % 4 = l by omega, show (4 * p + l) / 4 = p by omega]
theorem yy_k5 {post : Int64 → Prop} {n : Nat} {g : Nat → Nat → Nat} (hn : n ≤ 5) (hI : ps_YI im n g) (hg : ps_Gd n g) (K : post (lN (ps_kf 5 (ps_dg g) (4 * n)))) : ∀ d p, p + d = n → wY_key_5 post (nI n) (nI L) (nI c) mn w le ra fi se pm im ot od pl kn an tb ks (d + 1) (lN (ps_kf 5 (ps_dg g) (4 * p))) (nI p) := by
  intro d
  induction d with
  | zero =>
    intro p hp
    obtain rfl : p = n := by omega
    exact br_t (nI_le (by omega) (by omega)) K
  | succ d ih =>
    intro p hp
    exact br_f (nI_ge (by omega) (by omega)) ⟨5, yy_k14 hn (by omega) hI hg (ih (p + 1) (by omega)) 4 0 rfl⟩
theorem yy_key {post : Int64 → Prop} {n : Nat} {g : Nat → Nat → Nat} (hn : n ≤ 5) (hI : ps_YI im n g) (hg : ps_Gd n g) (K : post (lN (ps_cv (4 * n) (ps_ky n g)))) : wpY_key post (nI L, nI c, mn, w, le, ra, fi, se, pm, im, ot, od, pl, kn, an, tb, ks) (nI n) := by
  rw [ps_ky, ps_cv_kf _ (fun i hi => Nat.lt_of_lt_of_le (ps_dg_lt hg i hi) (by omega))] at K
  exact ⟨n + 1, yy_k5 hn hI hg K n 0 (by omega)⟩
end
