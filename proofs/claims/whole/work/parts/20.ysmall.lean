/-! the reference's small methods -/
theorem ps_nar0 : vp_nar .boolean 0 = 0 := by decide
theorem ps_nar1 : vp_nar .boolean 1 = 1 := by decide
section
variable {L c : Nat} {mn : Int32} {w le ra fi se pm im ot od pl kn an tb : Nat → Int32} {ks : Nat → Int64}
theorem yy_letter_b {post : Int32 → SY → Prop} {v : Int32} (h : v < 0 ∨ nI 4 ≤ v) (k : post (-1) (nI L, nI c, mn, w, le, ra, fi, se, pm, im, ot, od, pl, kn, an, tb, ks)) : wpY_letter post (nI L, nI c, mn, w, le, ra, fi, se, pm, im, ot, od, pl, kn, an, tb, ks) v := by
  by_cases z : v < 0
  · exact br_t z k
  · rcases h with h | h
    · exact absurd h z
    · exact br_f z (br_f (fun q => absurd (Int32.le_trans h q) (by decide)) k)
theorem yy_letter_f {post : Int32 → SY → Prop} {l : Nat} (hl : l < 4) (hL : L = 8) (k : post (-2) (nI L, nI c, mn, w, le, ra, fi, se, pm, im, ot, od, pl, kn, an, tb, ks)) : wpY_letter post (nI L, nI c, mn, w, le, ra, fi, se, pm, im, ot, od, pl, kn, an, tb, ks) (nI l) :=
  br_f (nI_pos (by omega)) (br_t (nI_le (b := 3) (by omega) (by decide)) (br_t (by rw [hL]; rfl) k))
theorem yy_letter_o {post : Int32 → SY → Prop} {l : Nat} (hl : l < 4) (hL : L < 8) (k : post (nI (L + 1)) (nI (L + 1), nI c, mn, upd w L (nI l), le, ra, fi, se, pm, im, ot, od, pl, kn, an, tb, ks)) : wpY_letter post (nI L, nI c, mn, w, le, ra, fi, se, pm, im, ot, od, pl, kn, an, tb, ks) (nI l) :=
  br_f (nI_pos (by omega)) (br_t (nI_le (b := 3) (by omega) (by decide)) (br_f (fun q => absurd ((nI_eq (b := 8) (by omega) (by decide)).mp q) (by omega)) ⟨vp_in_nI hL (by decide), nm_r (ps_wr rfl (by omega) rfl) (nm_r (nI_1 L) k)⟩))
theorem yy_clear {post : Int32 → SY → Prop} (k : post (nI L) (nI 0, nI c, mn, w, le, ra, fi, se, pm, im, ot, od, pl, kn, an, tb, ks)) : wpY_clear post (nI L, nI c, mn, w, le, ra, fi, se, pm, im, ot, od, pl, kn, an, tb, ks) := k
theorem yy_inv2 {post : Int32 → SY → Prop} {wn : Nat → Nat} (hL : L ≤ 8) (K : ∀ w', ps_Wo (ps_in L wn ((L + 1) / 2)) w' → post (nI L) (nI L, nI c, mn, w', le, ra, fi, se, pm, im, ot, od, pl, kn, an, tb, ks)) : ∀ d i w', i + d = (L + 1) / 2 → ps_Wo (ps_in L wn i) w' → wY_invert_2 post (nI L) (nI c) mn (d + 1) (nI i) w' le ra fi se pm im ot od pl kn an tb ks := by
  have e2 : (nI L + 1) / 2 = nI ((L + 1) / 2) := by
    rw [nI_1]
    exact pk_div (a := L + 1) (d := 2) (by omega) (by decide) (by decide)
  intro d
  induction d with
  | zero =>
    intro i w' hi h
    obtain rfl : i = (L + 1) / 2 := by omega
    exact ⟨by decide, br_t (by rw [e2]; exact nI_le (by omega) (by omega)) (K w' h)⟩
  | succ d ih =>
    intro i w' hi h
    have ej : (nI L - 1) - nI i = nI (L - 1 - i) := by rw [ps_m1 (by omega), pk_sub (by omega)]
    have ci : (nI i).toNatClampNeg = i := nI_clamp (by omega)
    have cj : ((nI L - 1) - nI i).toNatClampNeg = L - 1 - i := by rw [ej]; exact nI_clamp (by omega)
    have vi : vp_in (nI i) 8 := vp_in_nI (by omega) (by decide)
    have vj : vp_in ((nI L - 1) - nI i) 8 := by rw [ej]; exact vp_in_nI (by omega) (by decide)
    have hq := ih (i + 1) _ (by omega) (ps_Wo_up (ps_Wo_up h i _ (ps_x1 _ (h (L - 1 - i)).1)) (L - 1 - i) _ (ps_x1 _ (h i).1))
    refine ⟨by decide, br_f (by rw [e2]; exact nI_ge (by omega) (by omega)) ⟨vi, nm_r (e' := nI (ps_in L wn i i ^^^ 1)) ?_ ⟨vj, ⟨vi, nm_r (e' := upd w' i (nI (ps_in L wn i (L - 1 - i) ^^^ 1))) ?_ ⟨vj, nm_r (e' := upd (upd w' i (nI (ps_in L wn i (L - 1 - i) ^^^ 1))) (L - 1 - i) (nI (ps_in L wn i i ^^^ 1))) ?_ (nm_r (nI_1 i) hq)⟩⟩⟩⟩⟩
    · rw [ci, (h i).2, ps_x1I]
    · rw [ci, cj, (h _).2, ps_x1I]
    · rw [cj]
theorem yy_invert {post : Int32 → SY → Prop} {wn : Nat → Nat} (hL : L ≤ 8) (hw : ps_Wo wn w) (K : ∀ w', ps_Wo (ps_in L wn ((L + 1) / 2)) w' → post (nI L) (nI L, nI c, mn, w', le, ra, fi, se, pm, im, ot, od, pl, kn, an, tb, ks)) : wpY_invert post (nI L, nI c, mn, w, le, ra, fi, se, pm, im, ot, od, pl, kn, an, tb, ks) :=
  ⟨(L + 1) / 2 + 1, yy_inv2 hL K ((L + 1) / 2) 0 w (by omega) hw⟩
theorem yy_for2 {post : SY → Prop} (K : ∀ kn', (∀ n, n < 6 → kn' n = 0) → post (nI L, nI c, mn, w, le, ra, fi, se, pm, im, ot, od, pl, kn', an, tb, ks)) : ∀ d i kn', i + d = 6 → (∀ n, n < i → kn' n = 0) → wY_forget_2 post (nI L) (nI c) mn (d + 1) (nI i) w le ra fi se pm im ot od pl kn' an tb ks := by
  intro d
  induction d with
  | zero =>
    intro i kn' hi h
    obtain rfl : i = 6 := by omega
    exact br_t (nI_le (a := 6) (b := 6) (by decide) (by decide)) (K kn' h)
  | succ d ih =>
    intro i kn' hi h
    refine br_f (nI_ge (b := 6) (by omega) (by decide)) ⟨vp_in_nI (by omega) (by decide), nm_r (e' := upd kn' i 0) (ps_wr rfl (by omega) ps_nar0) (nm_r (nI_1 i) (ih (i + 1) _ (by omega) (fun n hn => ?_)))⟩
    by_cases e : n = i
    · subst e
      exact pk_us
    · rw [pk_un e]
      exact h n (by omega)
theorem yy_forget {post : SY → Prop} (K : ∀ kn', (∀ n, n < 6 → kn' n = 0) → post (nI L, nI c, mn, w, le, ra, fi, se, pm, im, ot, od, pl, kn', an, tb, ks)) : wpY_forget post (nI L, nI c, mn, w, le, ra, fi, se, pm, im, ot, od, pl, kn, an, tb, ks) := ⟨7, yy_for2 K 6 0 kn (by omega) (fun n hn => by omega)⟩
theorem yy_rel26 {post : Int32 → SY → Prop} {wn : Nat → Nat} (hL : L ≤ 8) (hc : c < 4) (hw : ps_Wo wn w) (K : ∀ ra' kn', (∀ i, i < L → ra' (8 * c + i) = nI (wn i)) → (∀ j, j < 8 * c → ra' j = ra j) → (∀ n, n < 6 → kn' n = 0) → post (nI (c + 1)) (nI L, nI (c + 1), mn, w, le, ra', fi, se, pm, im, ot, od, pl, kn', an, tb, ks)) : ∀ d i ra', i + d = L → (∀ j, j < i → ra' (8 * c + j) = nI (wn j)) → (∀ j, j < 8 * c → ra' j = ra j) → wY_relate_26 post (nI L) (nI c) mn (d + 1) (nI i) w le ra' fi se pm im ot od pl kn an tb ks := by
  intro d
  induction d with
  | zero =>
    intro i ra' hi h1 h2
    obtain rfl : i = L := by omega
    exact br_t (nI_le (by omega) (by omega)) (nm_r (nI_1 c) (yy_forget (fun kn' hk => K ra' kn' h1 h2 hk)))
  | succ d ih =>
    intro i ra' hi h1 h2
    refine br_f (nI_ge (by omega) (by omega)) ⟨vp_in_nI (by omega) (by decide), ⟨pk_in (8 * c + i) 32 (by omega) (ps_8x c i), nm_r (e' := upd ra' (8 * c + i) (nI (wn i))) (ps_wr (ps_8x c i) (by omega) (ps_rd rfl (by omega) (hw i).2)) (nm_r (nI_1 i) (ih (i + 1) _ (by omega) ?_ ?_))⟩⟩
    · intro j hj
      by_cases e : j = i
      · subst e
        exact pk_us
      · rw [pk_un (by omega)]
        exact h1 j (by omega)
    · intro j hj
      rw [pk_un (by omega)]
      exact h2 j hj
theorem yy_relate_f {post : Int32 → SY → Prop} (hc : c = 4) (k : post (-2) (nI L, nI c, mn, w, le, ra, fi, se, pm, im, ot, od, pl, kn, an, tb, ks)) : wpY_relate post (nI L, nI c, mn, w, le, ra, fi, se, pm, im, ot, od, pl, kn, an, tb, ks) := br_t (by rw [hc]; rfl) k
theorem yy_relate_o {post : Int32 → SY → Prop} {wn ln : Nat → Nat} {rl : Nat → Nat → Nat} (hL : L ≤ 8) (hc : c < 4) (hw : ps_Wo wn w) (hr : ps_Ru c ln rl ra le) (K : ∀ ra' le' kn', ps_Ru (c + 1) (ps_up ln c L) (fun k => if k = c then wn else rl k) ra' le' → (∀ n, n < 6 → kn' n = 0) → post (nI (c + 1)) (nI L, nI (c + 1), mn, w, le', ra', fi, se, pm, im, ot, od, pl, kn', an, tb, ks)) : wpY_relate post (nI L, nI c, mn, w, le, ra, fi, se, pm, im, ot, od, pl, kn, an, tb, ks) :=
  br_f (fun q => absurd ((nI_eq (b := 4) (by omega) (by decide)).mp q) (by omega)) ⟨vp_in_nI hc (by decide), nm_r (e' := upd le c (nI L)) (ps_wr rfl (by omega) rfl) ⟨L + 1, yy_rel26 hL hc hw (fun ra' kn' h1 h2 h3 => K ra' _ kn' (ps_Ru_new hr hL (fun i => (hw i).1) h1 h2) h3) L 0 ra (by omega) (fun j hj => by omega) (fun _ _ => rfl)⟩⟩
theorem yy_drop51 {post : Int32 → SY → Prop} {J : Int32 → (Nat → Int32) → (Nat → Int32) → (Nat → Int32) → (Nat → Int32) → (Nat → Int32) → (Nat → Int32) → (Nat → Int32) → (Nat → Int32) → (Nat → Int32) → (Nat → Int32) → (Nat → Int32) → (Nat → Int32) → (Nat → Int32) → (Nat → Int64) → Prop} {t : Nat} (ht : t + 1 < 4) (K : ∀ ra', (∀ i, i < 8 → ra' (8 * t + i) = ra (8 * (t + 1) + i)) → (∀ j, ¬ (8 * t ≤ j ∧ j < 8 * t + 8) → ra' j = ra j) → J (nI (t + 1)) w le ra' fi se pm im ot od pl kn an tb ks) : ∀ d i ra', i + d = 8 → (∀ j, j < i → ra' (8 * t + j) = ra (8 * (t + 1) + j)) → (∀ j, ¬ (8 * t ≤ j ∧ j < 8 * t + 8) → ra' j = ra j) → wY_drop_51 post J (nI t) (nI L) (nI c) mn (d + 1) (nI i) w le ra' fi se pm im ot od pl kn an tb ks := by
  intro d
  induction d with
  | zero =>
    intro i ra' hi h1 h2
    obtain rfl : i = 8 := by omega
    exact br_t (nI_le (a := 8) (b := 8) (by decide) (by decide)) (nm_r (nI_1 t) (K ra' h1 h2))
  | succ d ih =>
    intro i ra' hi h1 h2
    have e8 : ((8 * nI t) + 8) + nI i = nI (8 * (t + 1) + i) := by
      rw [ps_8m, show (8 : Int32) = nI 8 from rfl, nI_add, nI_add]
      congr 1
    refine br_f (nI_ge (b := 8) (by omega) (by decide)) ⟨pk_in (8 * (t + 1) + i) 32 (by omega) e8, ⟨pk_in (8 * t + i) 32 (by omega) (ps_8x t i), nm_r (e' := upd ra' (8 * t + i) (ra (8 * (t + 1) + i))) (ps_wr (ps_8x t i) (by omega) (ps_rd e8 (by omega) (h2 _ (by omega)))) (nm_r (nI_1 i) (ih (i + 1) _ (by omega) ?_ ?_))⟩⟩
    · intro j hj
      by_cases e : j = i
      · subst e
        exact pk_us
      · rw [pk_un (by omega)]
        exact h1 j (by omega)
    · intro j hj
      rw [pk_un (by omega)]
      exact h2 j hj
theorem yy_drop27 {post : Int32 → SY → Prop} {k : Nat} {ln : Nat → Nat} {rl : Nat → Nat → Nat} (hc : c < 4) (K : ∀ ra' le' kn', ps_Ru c (ps_dr k c ln) (ps_dr k c rl) ra' le' → (∀ n, n < 6 → kn' n = 0) → post (nI c) (nI L, nI c, mn, w, le', ra', fi, se, pm, im, ot, od, pl, kn', an, tb, ks)) : ∀ d t (ra le : Nat → Int32), k ≤ t → t + d = c → ps_Ru (c + 1) (ps_dr k t ln) (ps_dr k t rl) ra le → wY_drop_27 post (nI L) (nI c) mn (d + 1) (nI t) w le ra fi se pm im ot od pl kn an tb ks := by
  intro d
  induction d with
  | zero =>
    intro t ra le hk ht h
    obtain rfl : t = c := by omega
    exact br_t (nI_le (by omega) (by omega)) (yy_forget (fun kn' h6 => K ra le kn' (ps_Ru_sub h (by omega)) h6))
  | succ d ih =>
    intro t ra le hk ht h
    have g := h (t + 1) (by omega)
    have el : le (nI t + 1).toNatClampNeg = le (t + 1) := ps_rd (nI_1 t) (by omega) rfl
    refine br_f (nI_ge (by omega) (by omega)) ⟨pk_in (t + 1) 4 (by omega) (nI_1 t), ⟨vp_in_nI (by omega) (by decide), nm_r (e' := upd le t (le (t + 1))) (ps_wr rfl (by omega) el) ⟨9, yy_drop51 (by omega) (fun ra' h1 h2 => ih (t + 1) _ _ (by omega) (by omega) (ps_Ru_mv hk (by omega) h ?_ ?_ ?_ ?_)) 8 0 ra (by omega) (fun j hj => by omega) (fun _ _ => rfl)⟩⟩⟩
    · exact pk_us
    · intro m hm
      exact pk_un hm
    · intro i hi
      have g1 := g.1
      rw [ps_dr_n] at g1
      exact h1 i (by omega)
    · intro m hm i hi
      exact h2 _ (by omega)
theorem yy_drop_b {post : Int32 → SY → Prop} {v : Int32} (h : v < 0 ∨ nI c ≤ v) (k : post (-4) (nI L, nI c, mn, w, le, ra, fi, se, pm, im, ot, od, pl, kn, an, tb, ks)) : wpY_drop post (nI L, nI c, mn, w, le, ra, fi, se, pm, im, ot, od, pl, kn, an, tb, ks) v := by
  by_cases z : v < 0
  · exact br_t z k
  · rcases h with h | h
    · exact absurd h z
    · exact br_f z (br_f (Int32.not_lt.mpr h) k)
theorem yy_drop_o {post : Int32 → SY → Prop} {k : Nat} {ln : Nat → Nat} {rl : Nat → Nat → Nat} (hk : k < c) (hc : c ≤ 4) (hr : ps_Ru c ln rl ra le) (K : ∀ ra' le' kn', ps_Ru (c - 1) (ps_dr k (c - 1) ln) (ps_dr k (c - 1) rl) ra' le' → (∀ n, n < 6 → kn' n = 0) → post (nI (c - 1)) (nI L, nI (c - 1), mn, w, le', ra', fi, se, pm, im, ot, od, pl, kn', an, tb, ks)) : wpY_drop post (nI L, nI c, mn, w, le, ra, fi, se, pm, im, ot, od, pl, kn, an, tb, ks) (nI k) :=
  br_f (nI_pos (by omega)) (br_t (nI_lt hk (by omega)) (nm_r (ps_m1 (by omega)) ⟨c - 1 - k + 1, yy_drop27 (c := c - 1) (by omega) K (c - 1 - k) k ra le (Nat.le_refl _) (by omega) (by rw [ps_dr_0, ps_dr_0, Nat.sub_add_cancel (by omega)]; exact hr)⟩))
theorem yy_word4 {post : Int32 → Prop} {wn : Nat → Nat} (hL : L ≤ 8) (hw : ps_Wo wn w) (K : post (ps_wv wn L)) : ∀ d i, i + d = L → wY_word_4 post (nI L) (nI c) mn w le ra fi se pm im ot od pl kn an tb ks (d + 1) (ps_wv wn i) (nI i) := by
  intro d
  induction d with
  | zero =>
    intro i hi
    obtain rfl : i = L := by omega
    exact br_t (nI_le (by omega) (by omega)) K
  | succ d ih =>
    intro i hi
    exact br_f (nI_ge (by omega) (by omega)) ⟨vp_in_nI (by omega) (by decide), nm_r (e' := ps_wv wn (i + 1)) (by rw [ps_rd rfl (by omega) (hw i).2, ps_wv]) (nm_r (nI_1 i) (ih (i + 1) (by omega)))⟩
theorem yy_word {post : Int32 → Prop} {wn : Nat → Nat} (hL : L ≤ 8) (hw : ps_Wo wn w) (K : post (ps_wv wn L)) : wpY_word post (nI L, nI c, mn, w, le, ra, fi, se, pm, im, ot, od, pl, kn, an, tb, ks) := ⟨L + 1, yy_word4 hL hw K L 0 (by omega)⟩
theorem yy_bad_b {post : Int32 → Prop} {v : Int32} (h : v < 1 ∨ 5 < v) (k : post 1) : wpY_bad post (nI L, nI c, mn, w, le, ra, fi, se, pm, im, ot, od, pl, kn, an, tb, ks) v := by
  by_cases z : v < 1
  · exact br_t z k
  · rcases h with h | h
    · exact absurd h z
    · exact br_f z (br_f (Int32.not_le.mpr h) k)
theorem yy_bad_o {post : Int32 → Prop} {n : Nat} (h0 : 0 < n) (hn : n ≤ 5) (k : post 0) : wpY_bad post (nI L, nI c, mn, w, le, ra, fi, se, pm, im, ot, od, pl, kn, an, tb, ks) (nI n) :=
  br_f (nI_nlt (b := 1) (by omega) (by omega)) (br_t (nI_le (b := 5) hn (by decide)) k)
end
