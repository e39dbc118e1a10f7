/-! the component's small methods -/
section
variable {L c : Nat} {tc : Int32} {w ra le im nn mp fs ss : Nat → Int32} {tk : Nat → Int64}
theorem xx_isL_b {post : Int32 → Prop} {v : Int32} (h : v < 0 ∨ nI 4 ≤ v) (k : post 0) : wpX_isLetter post (nI L, nI c, tc, w, ra, le, im, tk, nn, mp, fs, ss) v := by
  by_cases z : v < 0
  · exact br_t z k
  · rcases h with h | h
    · exact absurd h z
    · exact br_f z (br_t h k)
theorem xx_isL_o {post : Int32 → Prop} {l : Nat} (hl : l < 4) (k : post 1) : wpX_isLetter post (nI L, nI c, tc, w, ra, le, im, tk, nn, mp, fs, ss) (nI l) :=
  br_f (nI_pos (by omega)) (br_f (nI_ge (b := 4) hl (by decide)) k)
theorem xx_letter_b {post : Int32 → SX → Prop} {v : Int32} (h : v < 0 ∨ nI 4 ≤ v) (k : post (-1) (nI L, nI c, tc, w, ra, le, im, tk, nn, mp, fs, ss)) : wpX_letter post (nI L, nI c, tc, w, ra, le, im, tk, nn, mp, fs, ss) v := by
  unfold wpX_letter
  dsimp only
  exact xx_isL_b h (br_t rfl k)
theorem xx_letter_f {post : Int32 → SX → Prop} {l : Nat} (hl : l < 4) (hL : L = 8) (k : post (-2) (nI L, nI c, tc, w, ra, le, im, tk, nn, mp, fs, ss)) : wpX_letter post (nI L, nI c, tc, w, ra, le, im, tk, nn, mp, fs, ss) (nI l) := by
  unfold wpX_letter
  dsimp only
  exact xx_isL_o hl (br_f (by decide) (br_f (nI_nlt (b := 8) (by omega) (by omega)) k))
theorem xx_letter_o {post : Int32 → SX → Prop} {l : Nat} (hl : l < 4) (hL : L < 8) (k : post (nI (L + 1)) (nI (L + 1), nI c, tc, upd w L (nI l), ra, le, im, tk, nn, mp, fs, ss)) : wpX_letter post (nI L, nI c, tc, w, ra, le, im, tk, nn, mp, fs, ss) (nI l) := by
  unfold wpX_letter
  dsimp only
  exact xx_isL_o hl (br_f (by decide) (br_t (nI_lt (b := 8) hL (by decide)) ⟨vp_in_nI hL (by decide), nm_r (ps_wr rfl (by omega) rfl) (nm_r (nI_1 L) k)⟩))
theorem xx_clear {post : Int32 → SX → Prop} (k : post (nI L) (nI 0, nI c, tc, w, ra, le, im, tk, nn, mp, fs, ss)) : wpX_clear post (nI L, nI c, tc, w, ra, le, im, tk, nn, mp, fs, ss) := k
theorem xx_inv2 {post : Int32 → SX → Prop} {wn : Nat → Nat} (hL : L ≤ 8) (K : ∀ w', ps_Wo (ps_in L wn ((L + 1) / 2)) w' → post (nI L) (nI L, nI c, tc, w', ra, le, im, tk, nn, mp, fs, ss)) : ∀ d i w', i + d = (L + 1) / 2 → ps_Wo (ps_in L wn i) w' → wX_invert_2 post (nI L) (nI c) tc (d + 1) (nI i) w' ra le im tk nn mp fs ss := by
  have e2 : (nI L + 1) / 2 = nI ((L + 1) / 2) := by
    rw [nI_1]
    exact pk_div (a := L + 1) (d := 2) (by omega) (by decide) (by decide)
  intro d
  induction d with
  | zero =>
    intro i w' hi h
    obtain rfl : i = (L + 1) / 2 := by omega
    exact ⟨by decide, br_t (by rw [e2]; exact nI_le (by omega) (by omega)) (K w' h)⟩
  | succ d ih =>
    intro i w' hi h
    have ci : (nI i).toNatClampNeg = i := nI_clamp (by omega)
    have cj : (nI (L - 1 - i)).toNatClampNeg = L - 1 - i := nI_clamp (by omega)
    have vi : vp_in (nI i) 8 := vp_in_nI (by omega) (by decide)
    have vj : vp_in (nI (L - 1 - i)) 8 := vp_in_nI (by omega) (by decide)
    have ej : (nI L - 1) - nI i = nI (L - 1 - i) := by rw [ps_m1 (by omega), pk_sub (by omega)]
    have hq := ih (i + 1) _ (by omega) (ps_Wo_up (ps_Wo_up h i _ (ps_x1 _ (h (L - 1 - i)).1)) (L - 1 - i) _ (ps_x1 _ (h i).1))
    refine ⟨by decide, br_f (by rw [e2]; exact nI_ge (by omega) (by omega)) (nm_r ej ⟨vi, ⟨vj, ⟨vi, nm_r (e' := upd w' i (nI (ps_in L wn i (L - 1 - i) ^^^ 1))) ?_ ⟨vj, nm_r (e' := upd (upd w' i (nI (ps_in L wn i (L - 1 - i) ^^^ 1))) (L - 1 - i) (nI (ps_in L wn i i ^^^ 1))) ?_ (nm_r (nI_1 i) hq)⟩⟩⟩⟩)⟩
    · rw [ci, cj, (h _).2, ps_x1I]
    · rw [ci, cj, (h i).2, ps_x1I]
theorem xx_invert {post : Int32 → SX → Prop} {wn : Nat → Nat} (hL : L ≤ 8) (hw : ps_Wo wn w) (K : ∀ w', ps_Wo (ps_in L wn ((L + 1) / 2)) w' → post (nI L) (nI L, nI c, tc, w', ra, le, im, tk, nn, mp, fs, ss)) : wpX_invert post (nI L, nI c, tc, w, ra, le, im, tk, nn, mp, fs, ss) :=
  ⟨(L + 1) / 2 + 1, xx_inv2 hL K ((L + 1) / 2) 0 w (by omega) hw⟩
theorem xx_rel13 {post : Int32 → SX → Prop} {wn : Nat → Nat} (hL : L ≤ 8) (hc : c < 4) (hw : ps_Wo wn w) (K : ∀ ra', (∀ i, i < L → ra' (8 * c + i) = nI (wn i)) → (∀ j, j < 8 * c → ra' j = ra j) → post (nI (c + 1)) (nI L, nI (c + 1), tc, w, ra', upd le c (nI L), im, tk, nn, mp, fs, ss)) : ∀ d i ra', i + d = L → (∀ j, j < i → ra' (8 * c + j) = nI (wn j)) → (∀ j, j < 8 * c → ra' j = ra j) → wX_relate_13 post (nI L) (nI c) tc (d + 1) (nI i) w ra' le im tk nn mp fs ss := by
  intro d
  induction d with
  | zero =>
    intro i ra' hi h1 h2
    obtain rfl : i = L := by omega
    exact br_t (nI_le (by omega) (by omega)) ⟨vp_in_nI hc (by decide), nm_r (ps_wr rfl (by omega) rfl) (nm_r (nI_1 c) (K ra' h1 h2))⟩
  | succ d ih =>
    intro i ra' hi h1 h2
    refine br_f (nI_ge (by omega) (by omega)) ⟨vp_in_nI (by omega) (by decide), ⟨pk_in (8 * c + i) 32 (by omega) (ps_ix8 c i), nm_r (e' := upd ra' (8 * c + i) (nI (wn i))) (ps_wr (ps_ix8 c i) (by omega) (ps_rd rfl (by omega) (hw i).2)) (nm_r (nI_1 i) (ih (i + 1) _ (by omega) ?_ ?_))⟩⟩
    · intro j hj
      by_cases e : j = i
      · subst e
        exact pk_us
      · rw [pk_un (by omega)]
        exact h1 j (by omega)
    · intro j hj
      rw [pk_un (by omega)]
      exact h2 j hj
theorem xx_relate_f {post : Int32 → SX → Prop} (hc : c = 4) (k : post (-2) (nI L, nI c, tc, w, ra, le, im, tk, nn, mp, fs, ss)) : wpX_relate post (nI L, nI c, tc, w, ra, le, im, tk, nn, mp, fs, ss) := br_f (nI_nlt (b := 4) (by omega) (by omega)) k
theorem xx_relate_o {post : Int32 → SX → Prop} {wn ln : Nat → Nat} {rl : Nat → Nat → Nat} (hL : L ≤ 8) (hc : c < 4) (hw : ps_Wo wn w) (hr : ps_Ru c ln rl ra le) (K : ∀ ra' le', ps_Ru (c + 1) (ps_up ln c L) (fun k => if k = c then wn else rl k) ra' le' → post (nI (c + 1)) (nI L, nI (c + 1), tc, w, ra', le', im, tk, nn, mp, fs, ss)) : wpX_relate post (nI L, nI c, tc, w, ra, le, im, tk, nn, mp, fs, ss) :=
  br_t (nI_lt (b := 4) hc (by decide)) ⟨L + 1, xx_rel13 hL hc hw (fun ra' h1 h2 => K ra' _ (ps_Ru_new hr hL (fun i => (hw i).1) h1 h2)) L 0 ra (by omega) (fun j hj => by omega) (fun _ _ => rfl)⟩
theorem xx_mv6 {post : SX → Prop} {t m : Nat} (ht : t + 1 < 4) (hm : le (t + 1) = nI m) (hm8 : m ≤ 8) (K : ∀ ra', (∀ i, i < m → ra' (8 * t + i) = ra (8 * (t + 1) + i)) → (∀ j, ¬ (8 * t ≤ j ∧ j < 8 * t + 8) → ra' j = ra j) → post (nI L, nI c, tc, w, ra', upd le t (nI m), im, tk, nn, mp, fs, ss)) : ∀ d i ra', i + d = m → (∀ j, j < i → ra' (8 * t + j) = ra (8 * (t + 1) + j)) → (∀ j, ¬ (8 * t ≤ j ∧ j < 8 * t + 8) → ra' j = ra j) → wX_moveRelatorDownTo_6 post (nI t) (nI (t + 1)) (nI L) (nI c) tc (d + 1) (nI i) w ra' le im tk nn mp fs ss := by
  have vt : vp_in (nI t) 4 := vp_in_nI (by omega) (by decide)
  have v1 : vp_in (nI (t + 1)) 4 := vp_in_nI (by omega) (by decide)
  have el : le (nI (t + 1)).toNatClampNeg = nI m := ps_rd rfl (by omega) hm
  intro d
  induction d with
  | zero =>
    intro i ra' hi h1 h2
    obtain rfl : i = m := by omega
    exact ⟨v1, br_t (by rw [el]; exact nI_le (by omega) (by omega)) ⟨v1, ⟨vt, nm_r (ps_wr rfl (by omega) el) (K ra' h1 h2)⟩⟩⟩
  | succ d ih =>
    intro i ra' hi h1 h2
    refine ⟨v1, br_f (by rw [el]; exact nI_ge (by omega) (by omega)) ⟨pk_in (8 * (t + 1) + i) 32 (by omega) (ps_ix8 (t + 1) i), ⟨pk_in (8 * t + i) 32 (by omega) (ps_ix8 t i), nm_r (e' := upd ra' (8 * t + i) (ra (8 * (t + 1) + i))) (ps_wr (ps_ix8 t i) (by omega) (ps_rd (ps_ix8 (t + 1) i) (by omega) (h2 _ (by omega)))) (nm_r (nI_1 i) (ih (i + 1) _ (by omega) ?_ ?_))⟩⟩⟩
    · intro j hj
      by_cases e : j = i
      · subst e
        exact pk_us
      · rw [pk_un (by omega)]
        exact h1 j (by omega)
    · intro j hj
      rw [pk_un (by omega)]
      exact h2 j hj
theorem xx_move {post : SX → Prop} {t m : Nat} (ht : t + 1 < 4) (hm : le (t + 1) = nI m) (hm8 : m ≤ 8) (K : ∀ ra', (∀ i, i < m → ra' (8 * t + i) = ra (8 * (t + 1) + i)) → (∀ j, ¬ (8 * t ≤ j ∧ j < 8 * t + 8) → ra' j = ra j) → post (nI L, nI c, tc, w, ra', upd le t (nI m), im, tk, nn, mp, fs, ss)) : wpX_moveRelatorDownTo post (nI L, nI c, tc, w, ra, le, im, tk, nn, mp, fs, ss) (nI t) :=
  nm_r (nI_1 t) ⟨m + 1, xx_mv6 ht hm hm8 K m 0 ra (by omega) (fun j hj => by omega) (fun _ _ => rfl)⟩
theorem xx_drop17 {post : Int32 → SX → Prop} {k : Nat} {ln : Nat → Nat} {rl : Nat → Nat → Nat} (hc : c ≤ 4) (h0 : 0 < c) (K : ∀ ra' le', ps_Ru (c - 1) (ps_dr k (c - 1) ln) (ps_dr k (c - 1) rl) ra' le' → post (nI (c - 1)) (nI L, nI (c - 1), tc, w, ra', le', im, tk, nn, mp, fs, ss)) : ∀ d t (ra le : Nat → Int32), k ≤ t → t + d = c - 1 → ps_Ru c (ps_dr k t ln) (ps_dr k t rl) ra le → wX_drop_17 post (d + 1) (nI t) (nI L) (nI c) tc w ra le im tk nn mp fs ss := by
  have e1 : nI c - 1 = nI (c - 1) := ps_m1 h0
  intro d
  induction d with
  | zero =>
    intro t ra le hk ht h
    obtain rfl : t = c - 1 := by omega
    exact br_t (by rw [e1]; exact nI_le (by omega) (by omega)) (nm_r e1 (K ra le (ps_Ru_sub h (by omega))))
  | succ d ih =>
    intro t ra le hk ht h
    have g := h (t + 1) (by omega)
    refine br_f (by rw [e1]; exact nI_ge (by omega) (by omega)) (xx_move (m := ps_dr k t ln (t + 1)) (by omega) g.2.1 g.1 (fun ra' h1 h2 => nm_r (nI_1 t) (ih (t + 1) _ _ (by omega) (by omega) (ps_Ru_mv hk (by omega) h ?_ ?_ ?_ ?_))))
    · rw [pk_us]
      exact g.2.1.symm
    · intro m hm
      exact pk_un hm
    · intro i hi
      rw [ps_dr_n] at h1
      exact h1 i hi
    · intro m hm i hi
      exact h2 _ (by omega)
theorem xx_drop_b {post : Int32 → SX → Prop} {v : Int32} (h : v < 0 ∨ nI c ≤ v) (k : post (-4) (nI L, nI c, tc, w, ra, le, im, tk, nn, mp, fs, ss)) : wpX_drop post (nI L, nI c, tc, w, ra, le, im, tk, nn, mp, fs, ss) v := by
  by_cases z : v < 0
  · exact br_t z k
  · rcases h with h | h
    · exact absurd h z
    · exact br_f z (br_f (Int32.not_lt.mpr h) k)
theorem xx_drop_o {post : Int32 → SX → Prop} {k : Nat} {ln : Nat → Nat} {rl : Nat → Nat → Nat} (hk : k < c) (hc : c ≤ 4) (hr : ps_Ru c ln rl ra le) (K : ∀ ra' le', ps_Ru (c - 1) (ps_dr k (c - 1) ln) (ps_dr k (c - 1) rl) ra' le' → post (nI (c - 1)) (nI L, nI (c - 1), tc, w, ra', le', im, tk, nn, mp, fs, ss)) : wpX_drop post (nI L, nI c, tc, w, ra, le, im, tk, nn, mp, fs, ss) (nI k) :=
  br_f (nI_pos (by omega)) (br_t (nI_lt hk (by omega)) ⟨c - 1 - k + 1, xx_drop17 hc (by omega) K (c - 1 - k) k ra le (Nat.le_refl _) (by omega) (by rw [ps_dr_0, ps_dr_0]; exact hr)⟩)
theorem xx_word4 {post : Int32 → Prop} {wn : Nat → Nat} (hL : L ≤ 8) (hw : ps_Wo wn w) (K : post (ps_wv wn L)) : ∀ d i, i + d = L → wX_word_4 post (nI L) (nI c) tc w ra le im tk nn mp fs ss (d + 1) (ps_wv wn i) (nI i) := by
  intro d
  induction d with
  | zero =>
    intro i hi
    obtain rfl : i = L := by omega
    exact br_t (nI_le (by omega) (by omega)) K
  | succ d ih =>
    intro i hi
    exact br_f (nI_ge (by omega) (by omega)) ⟨vp_in_nI (by omega) (by decide), nm_r (e' := ps_wv wn (i + 1)) (by rw [ps_rd rfl (by omega) (hw i).2, ps_wv]) (nm_r (nI_1 i) (ih (i + 1) (by omega)))⟩
theorem xx_word {post : Int32 → Prop} {wn : Nat → Nat} (hL : L ≤ 8) (hw : ps_Wo wn w) (K : post (ps_wv wn L)) : wpX_word post (nI L, nI c, tc, w, ra, le, im, tk, nn, mp, fs, ss) := ⟨L + 1, xx_word4 hL hw K L 0 (by omega)⟩
theorem xx_isP_b {post : Int32 → Prop} {v : Int32} (h : v < 1 ∨ 5 < v) (k : post 0) : wpX_isPointCount post (nI L, nI c, tc, w, ra, le, im, tk, nn, mp, fs, ss) v := by
  by_cases z : v < 1
  · exact br_t z k
  · rcases h with h | h
    · exact absurd h z
    · exact br_f z (br_t h k)
theorem xx_isP_o {post : Int32 → Prop} {n : Nat} (h0 : 0 < n) (hn : n ≤ 5) (k : post 1) : wpX_isPointCount post (nI L, nI c, tc, w, ra, le, im, tk, nn, mp, fs, ss) (nI n) :=
  br_f (nI_nlt (b := 1) (by omega) (by omega)) (br_f (nI_nlt (a := 5) hn (by decide)) k)
theorem xx_isTN_b {post : Int32 → Prop} {v : Int32} {T : Nat} (h : v < 0 ∨ nI T ≤ v) (k : post 0) : wpX_isTableNumber post (nI L, nI c, nI T, w, ra, le, im, tk, nn, mp, fs, ss) v := by
  by_cases z : v < 0
  · exact br_t z k
  · rcases h with h | h
    · exact absurd h z
    · exact br_f z (br_t h k)
theorem xx_isTN_o {post : Int32 → Prop} {k T : Nat} (hk : k < T) (hT : T ≤ 461) (q : post 1) : wpX_isTableNumber post (nI L, nI c, nI T, w, ra, le, im, tk, nn, mp, fs, ss) (nI k) :=
  br_f (nI_pos (by omega)) (br_f (nI_ge hk (by omega)) q)
end
