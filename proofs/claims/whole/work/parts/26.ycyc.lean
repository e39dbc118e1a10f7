/-! the reference: cyclic -/
section
variable {L c : Nat} {mn : Int32} {w le ra fi se pm im ot od pl kn an tb : Nat → Int32} {ks : Nat → Int64}
variable {wn ln : Nat → Nat} {rl : Nat → Nat → Nat}
theorem yy_sum5 {post : Int32 → Prop} {k gen : Nat} (hg : gen = 0 ∨ gen = 2) (hc : c ≤ 4) (hr : ps_Ru c ln rl ra le) (hk : k < c) (K : post (ps_iI (ps_F gen ln rl k))) : ∀ d i, i + d = ln k → wY_sum_5 post (nI k) (nI gen) (nI L) (nI c) mn w le ra fi se pm im ot od pl kn an tb ks (d + 1) (ps_iI (ps_su gen (rl k) i)) (nI i) := by
  have g := hr k hk
  have g1 := g.1
  have v4 : vp_in (nI k) 4 := vp_in_nI (by omega) (by decide)
  have el : le (nI k).toNatClampNeg = nI (ln k) := ps_rd rfl (by omega) g.2.1
  have hg2 : gen ≤ 2 := by omega
  intro d
  induction d with
  | zero =>
    intro i hi
    obtain rfl : i = ln k := by omega
    exact ⟨v4, br_t (by rw [el]; exact nI_le (by omega) (by omega)) K⟩
  | succ d ih =>
    intro i hi
    have hl := g.2.2 i (by omega)
    have h4 := hl.1
    have hq := ih (i + 1) (by omega)
    rw [ps_su] at hq
    have er : ra ((8 * nI k) + nI i).toNatClampNeg = nI (rl k i) := ps_rd (ps_8x k i) (by omega) hl.2
    have v := pk_in (8 * k + i) 32 (by omega) (ps_8x k i)
    refine ⟨v4, br_f (by rw [el]; exact nI_ge (by omega) (by omega)) ⟨v, ?_⟩⟩
    by_cases z : rl k i = gen
    · rw [if_pos z] at hq
      refine br_t (by rw [er, z]) (nm_r (ps_iI_inc _) ⟨v, br_f ?_ (nm_r (nI_1 i) hq)⟩)
      rw [er, nI_1]
      exact fun q => absurd ((nI_eq (by omega) (by omega)).mp q) (by omega)
    · rw [if_neg z] at hq
      refine br_f (by rw [er]; exact fun q => z ((nI_eq (by omega) (by omega)).mp q)) ?_
      by_cases z2 : rl k i = gen + 1
      · rw [if_pos z2] at hq
        exact ⟨v, br_t (by rw [er, nI_1, z2]) (nm_r (ps_iI_dec _) (nm_r (nI_1 i) hq))⟩
      · rw [if_neg z2] at hq
        refine ⟨v, br_f ?_ (nm_r (nI_1 i) hq)⟩
        rw [er, nI_1]
        exact fun q => z2 ((nI_eq (by omega) (by omega)).mp q)
theorem yy_sum {post : Int32 → Prop} {k gen : Nat} (hg : gen = 0 ∨ gen = 2) (hc : c ≤ 4) (hr : ps_Ru c ln rl ra le) (hk : k < c) (K : post (ps_iI (ps_F gen ln rl k))) : wpY_sum post (nI L, nI c, mn, w, le, ra, fi, se, pm, im, ot, od, pl, kn, an, tb, ks) (nI k) (nI gen) :=
  ⟨ln k + 1, yy_sum5 hg hc hr hk K (ln k) 0 (by omega)⟩
theorem yy_c191 {post : Int32 → SY → Prop} {J83 : Int32 → Int32 → Prop} {J109 : Int32 → Int32 → Int32 → Prop} {m y : Nat} {x2 x4 : Int32} {z s : Int} (h0 : 0 < m) (hm : m ≤ 1000) (KJ : J109 x2 (nI (ps_em (z + s) m)) (nI (y + 1))) : wY_cyclic_191 post J83 J109 (nI m) x2 (nI (ps_em s m)) x4 (nI (ps_em z m)) (nI y) (nI L) (nI c) mn w le ra fi se pm im ot od pl kn an tb ks := by
  have a := ps_em_lt (z := z) h0
  have b := ps_em_lt (z := s) h0
  rw [ps_em_add h0] at KJ
  refine nm_r (nI_add _ _) ?_
  by_cases h : m ≤ ps_em z m + ps_em s m
  · rw [if_pos h] at KJ
    exact br_f (nI_nlt h (by omega)) (nm_r (pk_sub h) (nm_r (nI_1 y) KJ))
  · rw [if_neg h] at KJ
    exact br_t (nI_lt (by omega) (by omega)) (nm_r (nI_1 y) KJ)
theorem yy_c130 {post : Int32 → SY → Prop} {J83 : Int32 → Int32 → Prop} {J109 : Int32 → Int32 → Int32 → Prop} {m x y C : Nat} {x3 x5 : Int32} (h0 : 0 < m) (hm : m ≤ 1000) (hx : x < m) (hy : y < m) (hc : c ≤ 4) (hr : ps_Ru c ln rl ra le) (hs : ∀ k, k < c → fi k = ps_iI (ps_F 0 ln rl k) ∧ se k = ps_iI (ps_F 2 ln rl k)) (k0 : ps_cp c m (ps_F 0 ln rl) (ps_F 2 ln rl) x y = false → wY_cyclic_191 post J83 J109 (nI m) (nI C) x3 (nI x) x5 (nI y) (nI L) (nI c) mn w le ra fi se pm im ot od pl kn an tb ks) (k1 : ps_cp c m (ps_F 0 ln rl) (ps_F 2 ln rl) x y = true → wY_cyclic_191 post J83 J109 (nI m) (nI (C + 1)) x3 (nI x) x5 (nI y) (nI L) (nI c) mn w le ra fi se pm im ot od pl kn an tb ks) : ∀ d k, k + d = c → wY_cyclic_130 post J83 J109 (nI m) (nI C) x3 (nI x) x5 (nI y) (nI L) (nI c) mn w le ra fi se pm im ot od pl kn an tb ks (d + 1) (ps_b (ps_cp k m (ps_F 0 ln rl) (ps_F 2 ln rl) x y)) (nI k) := by
  intro d
  induction d with
  | zero =>
    intro k hk
    obtain rfl : k = c := by omega
    refine br_t (nI_le (by omega) (by omega)) ?_
    cases e : ps_cp k m (ps_F 0 ln rl) (ps_F 2 ln rl) x y with
    | false => exact br_t rfl (k0 e)
    | true => exact br_f (by decide) (nm_r (nI_1 C) (k1 e))
  | succ d ih =>
    intro k hk
    have hkc : k < c := by omega
    refine br_f (nI_ge hkc (by omega)) ?_
    cases e : ps_cp k m (ps_F 0 ln rl) (ps_F 2 ln rl) x y with
    | false =>
      have e2 : ps_cp c m (ps_F 0 ln rl) (ps_F 2 ln rl) x y = false := decide_eq_false (fun hh => of_decide_eq_false e (fun q h1 => hh q (by omega)))
      exact br_t rfl (br_t rfl (k0 e2))
    | true =>
      have e := of_decide_eq_true e
      have v4 : vp_in (nI k) 4 := vp_in_nI (by omega) (by decide)
      have hsk := hs k hkc
      have e1 : fi (nI k).toNatClampNeg = ps_iI (ps_F 0 ln rl k) := ps_rd rfl (by omega) hsk.1
      have e2 : se (nI k).toNatClampNeg = ps_iI (ps_F 2 ln rl k) := ps_rd rfl (by omega) hsk.2
      have b := ps_xy_b hm hx hy (ps_F_b (gen := 0) hr hkc) (ps_F_b (gen := 2) hr hkc)
      have ez := ps_dv hm b.1 b.2
      rw [← ps_xFyS] at ez
      have hq := ih (k + 1) (by omega)
      refine br_f (by decide) ⟨v4, ⟨v4, ⟨nI_ne0 h0 (by omega), ?_⟩⟩⟩
      rw [e1, e2]
      by_cases z : (m : Int) ∣ (x : Int) * ps_F 0 ln rl k + (y : Int) * ps_F 2 ln rl k
      · have e3 : ps_cp (k + 1) m (ps_F 0 ln rl) (ps_F 2 ln rl) x y = true := decide_eq_true (lt_s e z)
        rw [e3] at hq
        exact br_t (ez.mpr z) (nm_r (nI_1 k) hq)
      · have e3 : ps_cp (k + 1) m (ps_F 0 ln rl) (ps_F 2 ln rl) x y = false := decide_eq_false (fun hh => z (hh k (by omega)))
        rw [e3] at hq
        exact br_f (fun q => z (ez.mp q)) (nm_r (nI_1 k) hq)
theorem yy_c109 {post : Int32 → SY → Prop} {J : Int32 → Int32 → Prop} {m x : Nat} (h0 : 0 < m) (hm : m ≤ 1000) (hx : x < m) (hc0 : 0 < c) (hc : c ≤ 4) (hr : ps_Ru c ln rl ra le) (hs : ∀ k, k < c → fi k = ps_iI (ps_F 0 ln rl k) ∧ se k = ps_iI (ps_F 2 ln rl k)) (KJ : J (nI (ps_cc (ps_cp c m (ps_F 0 ln rl) (ps_F 2 ln rl)) m (x + 1))) (nI (x + 1))) : ∀ d y, y + d = m → wY_cyclic_109 post J (nI m) (nI (ps_em (ps_F 2 ln rl 0) m)) (nI x) (nI L) (nI c) mn w le ra fi se pm im ot od pl kn an tb ks (d + 1) (nI (ps_cc (ps_cp c m (ps_F 0 ln rl) (ps_F 2 ln rl)) m x + ps_cn (ps_cp c m (ps_F 0 ln rl) (ps_F 2 ln rl) x) y)) (nI (ps_em ((x : Int) * ps_F 0 ln rl 0 + (y : Int) * ps_F 2 ln rl 0) m)) (nI y) := by
  intro d
  induction d with
  | zero =>
    intro y hy
    obtain rfl : y = m := by omega
    exact br_t (nI_le (by omega) (by omega)) (nm_r (nI_1 x) KJ)
  | succ d ih =>
    intro y hy
    have hq := ih (y + 1) (by omega)
    rw [ps_cn] at hq
    have ea : (x : Int) * ps_F 0 ln rl 0 + ((y + 1 : Nat) : Int) * ps_F 2 ln rl 0 = ((x : Int) * ps_F 0 ln rl 0 + (y : Int) * ps_F 2 ln rl 0) + ps_F 2 ln rl 0 := by
      rw [Int.natCast_add, Int.add_mul]
      omega
    rw [ea] at hq
    have hl := ps_em_lt (z := (x : Int) * ps_F 0 ln rl 0 + (y : Int) * ps_F 2 ln rl 0) h0
    have h130 := yy_c130 (post := post) (J83 := J) (J109 := wY_cyclic_109 post J (nI m) (nI (ps_em (ps_F 2 ln rl 0) m)) (nI x) (nI L) (nI c) mn w le ra fi se pm im ot od pl kn an tb ks (d + 1)) (L := L) (mn := mn) (w := w) (pm := pm) (im := im) (ot := ot) (od := od) (pl := pl) (kn := kn) (an := an) (tb := tb) (ks := ks) (C := ps_cc (ps_cp c m (ps_F 0 ln rl) (ps_F 2 ln rl)) m x + ps_cn (ps_cp c m (ps_F 0 ln rl) (ps_F 2 ln rl) x) y) (x3 := nI (ps_em (ps_F 2 ln rl 0) m)) (x5 := nI (ps_em ((x : Int) * ps_F 0 ln rl 0 + (y : Int) * ps_F 2 ln rl 0) m)) h0 hm hx (show y < m by omega) hc hr hs (fun e => yy_c191 h0 hm (by rw [e] at hq; exact hq)) (fun e => yy_c191 h0 hm (by rw [e] at hq; exact hq)) (c - 1) 1 (by omega)
    refine br_f (nI_ge (by omega) (by omega)) ?_
    by_cases z : ps_em ((x : Int) * ps_F 0 ln rl 0 + (y : Int) * ps_F 2 ln rl 0) m = 0
    · have e1 : ps_cp 1 m (ps_F 0 ln rl) (ps_F 2 ln rl) x y = true := decide_eq_true (fun q hq => by
        obtain rfl : q = 0 := by omega
        exact (ps_em_0 h0).mp z)
      rw [e1] at h130
      exact br_t (by rw [z]; rfl) ⟨_, h130⟩
    · have e1 : ps_cp 1 m (ps_F 0 ln rl) (ps_F 2 ln rl) x y = false := decide_eq_false (fun hh => z ((ps_em_0 h0).mpr (hh 0 (by omega))))
      rw [e1] at h130
      exact br_f (nI_ne0 (by omega) (by omega)) ⟨_, h130⟩
theorem yy_c83 {post : Int32 → SY → Prop} {m : Nat} (h0 : 0 < m) (hm : m ≤ 1000) (hc0 : 0 < c) (hc : c ≤ 4) (hr : ps_Ru c ln rl ra le) (hs : ∀ k, k < c → fi k = ps_iI (ps_F 0 ln rl k) ∧ se k = ps_iI (ps_F 2 ln rl k)) (K : post (nI (ps_cc (ps_cp c m (ps_F 0 ln rl) (ps_F 2 ln rl)) m m)) (nI L, nI c, mn, w, le, ra, fi, se, pm, im, ot, od, pl, kn, an, tb, ks)) : ∀ d x, x + d = m → wY_cyclic_83 post (nI m) (nI (ps_em (ps_F 2 ln rl 0) m)) (nI L) (nI c) mn w le ra fi se pm im ot od pl kn an tb ks (d + 1) (nI (ps_cc (ps_cp c m (ps_F 0 ln rl) (ps_F 2 ln rl)) m x)) (nI x) := by
  have nz : ¬ nI m = 0 := nI_ne0 h0 (by omega)
  intro d
  induction d with
  | zero =>
    intro x hx
    obtain rfl : x = m := by omega
    exact br_t (nI_le (by omega) (by omega)) K
  | succ d ih =>
    intro x hx
    have b := ps_xF (x := x) (by omega) (ps_F_b (gen := 0) hr hc0).1 (ps_F_b (gen := 0) hr hc0).2
    have h109 := yy_c109 (post := post) (J := wY_cyclic_83 post (nI m) (nI (ps_em (ps_F 2 ln rl 0) m)) (nI L) (nI c) mn w le ra fi se pm im ot od pl kn an tb ks (d + 1)) (L := L) (mn := mn) (w := w) (pm := pm) (im := im) (ot := ot) (od := od) (pl := pl) (kn := kn) (an := an) (tb := tb) (ks := ks) h0 hm (show x < m by omega) hc0 hc hr hs (ih (x + 1) (by omega)) m 0 (by omega)
    have e0 : (x : Int) * ps_F 0 ln rl 0 + ((0 : Nat) : Int) * ps_F 2 ln rl 0 = (x : Int) * ps_F 0 ln rl 0 := by
      rw [show ((0 : Nat) : Int) = 0 from rfl, Int.zero_mul, Int.add_zero]
    rw [e0] at h109
    have ex : nI x * fi 0 = ps_iI ((x : Int) * ps_F 0 ln rl 0) := by
      rw [(hs 0 hc0).1, ps_iI_nI]
      exact (Int32.ofInt_mul _ _).symm
    refine br_f (nI_ge (by omega) (by omega)) ⟨nz, ⟨nz, ?_⟩⟩
    rw [ex, ps_em_eq h0 hm (by omega) (by omega)]
    exact nm_e ⟨_, h109⟩
theorem yy_c16 {post : Int32 → SY → Prop} {m : Nat} (h0 : 0 < m) (hm : m ≤ 1000) (hc : c ≤ 4) (hr : ps_Ru c ln rl ra le) (K : ∀ fi' se', post (nI (ps_cc (ps_cp c m (ps_F 0 ln rl) (ps_F 2 ln rl)) m m)) (nI L, nI c, mn, w, le, ra, fi', se', pm, im, ot, od, pl, kn, an, tb, ks)) : ∀ d k fi' se', k + d = c → (∀ q, q < k → fi' q = ps_iI (ps_F 0 ln rl q) ∧ se' q = ps_iI (ps_F 2 ln rl q)) → wY_cyclic_16 post (nI m) (nI L) (nI c) mn (d + 1) (nI k) w le ra fi' se' pm im ot od pl kn an tb ks := by
  have nz : ¬ nI m = 0 := nI_ne0 h0 (by omega)
  intro d
  induction d with
  | zero =>
    intro k fi' se' hk h
    obtain rfl : k = c := by omega
    refine br_t (nI_le (by omega) (by omega)) ?_
    by_cases z : k = 0
    · have e : ps_cc (ps_cp k m (ps_F 0 ln rl) (ps_F 2 ln rl)) m m = m * m := ps_cc_all (fun x y => decide_eq_true (fun q hq => by omega)) m m
      rw [e, ← pk_mul] at K
      exact br_t (by rw [z]; rfl) (K fi' se')
    · have hb := ps_F_b (gen := 2) hr (show 0 < k by omega)
      refine br_f (nI_ne0 (by omega) (by omega)) ⟨nz, ⟨nz, ?_⟩⟩
      rw [(h 0 (by omega)).2, ps_em_eq h0 hm (by omega) (by omega)]
      exact nm_e ⟨m + 1, yy_c83 h0 hm (by omega) hc hr h (K fi' se') m 0 (by omega)⟩
  | succ d ih =>
    intro k fi' se' hk h
    have v4 : vp_in (nI k) 4 := vp_in_nI (by omega) (by decide)
    refine br_f (nI_ge (by omega) (by omega)) (yy_sum (gen := 0) (Or.inl rfl) hc hr (by omega) ⟨v4, nm_r (e' := upd fi' k (ps_iI (ps_F 0 ln rl k))) (ps_wr rfl (by omega) rfl) (yy_sum (gen := 2) (Or.inr rfl) hc hr (by omega) ⟨v4, nm_r (e' := upd se' k (ps_iI (ps_F 2 ln rl k))) (ps_wr rfl (by omega) rfl) (nm_r (nI_1 k) (ih (k + 1) _ _ (by omega) (fun q hq => ?_)))⟩)⟩)
    by_cases e : q = k
    · subst e
      exact ⟨pk_us, pk_us⟩
    · rw [pk_un e, pk_un e]
      exact h q (by omega)
theorem yy_cyclic_b {post : Int32 → SY → Prop} {v : Int32} (h : v < 1 ∨ 1000 < v) (k : post (-1) (nI L, nI c, mn, w, le, ra, fi, se, pm, im, ot, od, pl, kn, an, tb, ks)) : wpY_cyclic post (nI L, nI c, mn, w, le, ra, fi, se, pm, im, ot, od, pl, kn, an, tb, ks) v := by
  by_cases z : v < 1
  · exact br_t z k
  · rcases h with h | h
    · exact absurd h z
    · exact br_f z (br_f (Int32.not_le.mpr h) k)
theorem yy_cyclic_o {post : Int32 → SY → Prop} {m : Nat} (h0 : 0 < m) (hm : m ≤ 1000) (hL : L ≤ 8) (hc : c ≤ 4) (hw : ps_Wo wn w) (hr : ps_Ru c ln rl ra le) (hY : ps_YC c ln rl kn an tb ks) (K : ∀ u', yy_OK L c wn ln rl u' → post (nI (ps_cc (ps_cp c m (ps_F 0 ln rl) (ps_F 2 ln rl)) m m)) u') : wpY_cyclic post (nI L, nI c, mn, w, le, ra, fi, se, pm, im, ot, od, pl, kn, an, tb, ks) (nI m) :=
  br_f (nI_nlt (b := 1) (by omega) (by omega)) (br_t (nI_le (b := 1000) hm (by decide)) ⟨c + 1, yy_c16 h0 hm hc hr (fun fi' se' => K _ (yy_mk hL hc hw hr hY)) c 0 fi se (by omega) (fun q hq => by omega)⟩)
end
