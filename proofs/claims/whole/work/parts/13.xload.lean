/-! the component: a table at hand; tables, image, actions -/
theorem ps_and7 {M : Nat} (h : M < 2 ^ 62) : (lN M &&& 7).toInt32 = nI (M % 8) := by
  have e : lN M &&& lN (2 ^ 3 - 1) = lN (M % 2 ^ 3) := wb_mask (k := 3) (Nat.lt_trans h (by decide)) (by decide)
  have e2 : lN M &&& 7 = lN (M % 8) := e
  rw [e2, lN_i]
theorem ps_shr3 {M : Nat} (h : M < 2 ^ 62) : lN M >>> ((3 : Int32).toInt64 &&& 63) = lN (M / 8) := pf_shr (d := 3) (by decide) h
theorem ps_ct_t {e : Nat → Nat} {H : Nat → Bool} {t : Nat} (h : H (e t) = true) : ((List.range (t + 1)).map e).countP H = ((List.range t).map e).countP H + 1 := by
  rw [ps_pre_s, List.countP_append, List.countP_cons, if_pos h]
  rfl
theorem ps_ct_f {e : Nat → Nat} {H : Nat → Bool} {t : Nat} (h : H (e t) = false) : ((List.range (t + 1)).map e).countP H = ((List.range t).map e).countP H := by
  rw [ps_pre_s, List.countP_append, List.countP_cons, h]
  rfl
section
variable {L c : Nat} {tc : Int32} {w ra le im nn mp fs ss : Nat → Int32} {tk : Nat → Int64}
theorem xx_load14 {post : SX → Prop} {n K : Nat} (hn : n ≤ 5) (hK : K < 2 ^ 61) (KK : ∀ a', ps_XI a' n (ps_gk n K) → post (nI L, nI c, tc, w, ra, le, a', tk, nn, mp, fs, ss)) : ∀ r x5 a', r ≤ 4 * n → x5 = nI r - 1 → (∀ i, r ≤ i → i < 4 * n → a' i = nI (K / 8 ^ (4 * n - 1 - i) % 8)) → wX_loadTable_14 post (nI L) (nI c) tc (r + 1) (lN (K / 8 ^ (4 * n - r))) x5 w ra le a' tk nn mp fs ss := by
  intro r
  induction r with
  | zero =>
    intro x5 a' h1 h2 h3
    exact br_t (by rw [h2]; decide) (KK a' (fun l hl p hp => h3 (4 * p + l) (by omega) (by omega)))
  | succ r ih =>
    intro x5 a' h1 h2 h3
    have hM : K / 8 ^ (4 * n - (r + 1)) < 2 ^ 62 := Nat.lt_of_le_of_lt (Nat.div_le_self _ _) (Nat.lt_trans hK (by decide))
    have ex : x5 = nI r := by rw [h2]; exact nI_pred r
    subst ex
    have ed : K / 8 ^ (4 * n - (r + 1)) / 8 = K / 8 ^ (4 * n - r) := by
      rw [Nat.div_div_eq_div_mul, ← Nat.pow_succ]
      congr 2
      omega
    refine br_f (nI_pos (by omega)) ⟨vp_in_nI (by omega) (by decide), nm_r (e' := upd a' r (nI (K / 8 ^ (4 * n - (r + 1)) % 8))) (ps_wr rfl (by omega) (ps_and7 hM)) (nm_r (e' := lN (K / 8 ^ (4 * n - r))) (by rw [ps_shr3 hM, ed]) (nm_e (ih _ _ (by omega) ?_ ?_)))⟩
    · rw [Int32.sub_eq_add_neg]
    · intro i hi1 hi2
      by_cases e : i = r
      · subst e
        rw [pk_us, show 4 * n - 1 - i = 4 * n - (i + 1) by omega]
      · rw [pk_un e]
        exact h3 i (by omega) hi2
theorem xx_load {post : SX → Prop} {n k K : Nat} (hn : n ≤ 5) (hk : k < 461) (htk : tk k = lN K) (hK : K < 2 ^ 61) (KK : ∀ a', ps_XI a' n (ps_gk n K) → post (nI L, nI c, tc, w, ra, le, a', tk, nn, mp, fs, ss)) : wpX_loadTable post (nI L, nI c, tc, w, ra, le, im, tk, nn, mp, fs, ss) (nI n) (nI k) := by
  refine ⟨vp_in_nI hk (by decide), nm_r (e' := lN K) (ps_rdL rfl (by omega) htk) (nm_r (e' := nI (4 * n) - 1) (by rw [ps_m4]) ⟨4 * n + 1, ?_⟩)⟩
  have h := xx_load14 (L := L) (c := c) (tc := tc) (w := w) (ra := ra) (le := le) (nn := nn) (mp := mp) (fs := fs) (ss := ss) (tk := tk) hn hK KK (4 * n) (nI (4 * n) - 1) im (Nat.le_refl _) rfl (fun i h1 h2 => by omega)
  rw [Nat.sub_self, Nat.pow_zero, Nat.div_one] at h
  exact h
end
def xx_OK (L c : Nat) (wn ln : Nat → Nat) (rl : Nat → Nat → Nat) (u : SX) : Prop := ∃ (tc : Int32) (w ra le im : Nat → Int32) (tk : Nat → Int64) (nn mp fs ss : Nat → Int32), u = (nI L, nI c, tc, w, ra, le, im, tk, nn, mp, fs, ss) ∧ L ≤ 8 ∧ c ≤ 4 ∧ ps_Wo wn w ∧ ps_Ru c ln rl ra le
section
variable {L c : Nat} {tc : Int32} {w ra le im nn mp fs ss : Nat → Int32} {tk : Nat → Int64}
variable {wn ln : Nat → Nat} {rl : Nat → Nat → Nat}
theorem xx_mk (hL : L ≤ 8) (hc : c ≤ 4) (hw : ps_Wo wn w) (hr : ps_Ru c ln rl ra le) : xx_OK L c wn ln rl (nI L, nI c, tc, w, ra, le, im, tk, nn, mp, fs, ss) := ⟨tc, w, ra, le, im, tk, nn, mp, fs, ss, rfl, hL, hc, hw, hr⟩
theorem xx_tables_b {post : Int32 → SX → Prop} {v : Int32} (h : v < 1 ∨ 5 < v) (k : post (-1) (nI L, nI c, tc, w, ra, le, im, tk, nn, mp, fs, ss)) : wpX_tables post (nI L, nI c, tc, w, ra, le, im, tk, nn, mp, fs, ss) v := by
  unfold wpX_tables
  dsimp only
  exact xx_isP_b h (br_t rfl k)
theorem xx_tables_o {post : Int32 → SX → Prop} {n : Nat} (h0 : 0 < n) (hn : n ≤ 5) (hL : L ≤ 8) (hc : c ≤ 4) (hw : ps_Wo wn w) (hr : ps_Ru c ln rl ra le) (K : ∀ u', xx_OK L c wn ln rl u' → post (nI (ps_TL n (ps_G n c ln rl)).length) u') : wpX_tables post (nI L, nI c, tc, w, ra, le, im, tk, nn, mp, fs, ss) (nI n) := by
  unfold wpX_tables
  dsimp only
  exact xx_isP_o h0 hn (br_f (by decide) (xx_find h0 hn hr hc (fun a' tk' _ => K _ (xx_mk hL hc hw hr))))
theorem xx_image_b1 {post : Int32 → SX → Prop} {v v2 v3 v4 : Int32} (h : v < 1 ∨ 5 < v) (k : post (-1) (nI L, nI c, tc, w, ra, le, im, tk, nn, mp, fs, ss)) : wpX_image post (nI L, nI c, tc, w, ra, le, im, tk, nn, mp, fs, ss) v v2 v3 v4 := by
  unfold wpX_image
  dsimp only
  exact xx_isP_b h (br_t rfl k)
theorem xx_image_b2 {post : Int32 → SX → Prop} {n : Nat} {v2 v3 v4 : Int32} (h0 : 0 < n) (hn : n ≤ 5) (h : v3 < 0 ∨ nI n ≤ v3) (k : post (-1) (nI L, nI c, tc, w, ra, le, im, tk, nn, mp, fs, ss)) : wpX_image post (nI L, nI c, tc, w, ra, le, im, tk, nn, mp, fs, ss) (nI n) v2 v3 v4 := by
  unfold wpX_image
  dsimp only
  refine xx_isP_o h0 hn (br_f (by decide) ?_)
  by_cases z : v3 < 0
  · exact br_t z k
  · rcases h with h | h
    · exact absurd h z
    · exact br_f z (br_t h k)
theorem xx_image_b3 {post : Int32 → SX → Prop} {n p : Nat} {v2 v4 : Int32} (h0 : 0 < n) (hn : n ≤ 5) (hp : p < n) (h : v4 < 0 ∨ nI 4 ≤ v4) (k : post (-1) (nI L, nI c, tc, w, ra, le, im, tk, nn, mp, fs, ss)) : wpX_image post (nI L, nI c, tc, w, ra, le, im, tk, nn, mp, fs, ss) (nI n) v2 (nI p) v4 := by
  unfold wpX_image
  dsimp only
  exact xx_isP_o h0 hn (br_f (by decide) (br_f (nI_pos (by omega)) (br_f (nI_ge hp (by omega)) (xx_isL_b h (br_t rfl k)))))
theorem xx_image_b4 {post : Int32 → SX → Prop} {n p l : Nat} {v2 : Int32} (h0 : 0 < n) (hn : n ≤ 5) (hp : p < n) (hl : l < 4) (hL : L ≤ 8) (hc : c ≤ 4) (hw : ps_Wo wn w) (hr : ps_Ru c ln rl ra le) (h : v2 < 0 ∨ nI (ps_TL n (ps_G n c ln rl)).length ≤ v2) (K : ∀ u', xx_OK L c wn ln rl u' → post (-4) u') : wpX_image post (nI L, nI c, tc, w, ra, le, im, tk, nn, mp, fs, ss) (nI n) v2 (nI p) (nI l) := by
  unfold wpX_image
  dsimp only
  exact xx_isP_o h0 hn (br_f (by decide) (br_f (nI_pos (by omega)) (br_f (nI_ge hp (by omega)) (xx_isL_o hl (br_f (by decide) (xx_find h0 hn hr hc (fun a' tk' _ => xx_isTN_b h (br_t rfl (K _ (xx_mk hL hc hw hr))))))))))
theorem xx_image_o {post : Int32 → SX → Prop} {n p l k : Nat} (h0 : 0 < n) (hn : n ≤ 5) (hp : p < n) (hl : l < 4) (hL : L ≤ 8) (hc : c ≤ 4) (hw : ps_Wo wn w) (hr : ps_Ru c ln rl ra le) (h : k < (ps_TL n (ps_G n c ln rl)).length) (K : ∀ u', xx_OK L c wn ln rl u' → post (nI (ps_gk n ((ps_TL n (ps_G n c ln rl)).getD k 0) l p)) u') : wpX_image post (nI L, nI c, tc, w, ra, le, im, tk, nn, mp, fs, ss) (nI n) (nI k) (nI p) (nI l) := by
  have hT := ps_TL_len (c := c) (ln := ln) (rl := rl) h0 hn
  have hF := (ps_TLFa h0 hn h).1
  unfold wpX_image
  dsimp only
  refine xx_isP_o h0 hn (br_f (by decide) (br_f (nI_pos (by omega)) (br_f (nI_ge hp (by omega)) (xx_isL_o hl (br_f (by decide) (xx_find h0 hn hr hc (fun a' tk' hA => xx_isTN_o h hT (br_f (by decide) (xx_load hn (by omega) ?_ (ps_K8 hn hF.2.2) (fun a2 hI => ⟨pk_in (4 * p + l) 20 (by omega) (ps_ix4 p l), ?_⟩))))))))))
  · have q := hA k h
    rw [Nat.zero_add] at q
    exact q
  · dsimp only
    rw [ps_rd (ps_ix4 p l) (by omega) (hI l hl p hp)]
    exact K _ (xx_mk hL hc hw hr)
theorem xx_ac38 {post : Int32 → SX → Prop} {J : Int32 → Int32 → Int32 → Int32 → Int32 → (Nat → Int32) → (Nat → Int32) → (Nat → Int32) → (Nat → Int32) → (Nat → Int64) → (Nat → Int32) → (Nat → Int32) → (Nat → Int32) → (Nat → Int32) → Prop} {n i : Nat} (h0 : 0 < n) (hn : n ≤ 5) (hr : ps_Ru c ln rl ra le) (hc : c ≤ 4) (hi : i < ps_fa n) (KJ : ∀ a', J (nI (((List.range ((i + 1) * ps_fa n)).map (ps_eX n)).countP (ps_H n c ln rl))) (nI (i + 1)) (nI L) (nI c) tc w ra le a' tk nn mp fs ss) : ∀ d j a', j + d = ps_fa n → ps_Cl a' n 0 (ps_xl n i) → wX_actions_38 post J (nI n) (nI (ps_fa n)) (nI i) (d + 1) (nI (((List.range (i * ps_fa n + j)).map (ps_eX n)).countP (ps_H n c ln rl))) (nI j) (nI L) (nI c) tc w ra le a' tk nn mp fs ss := by
  have hfa := ev_fa hn
  intro d
  induction d with
  | zero =>
    intro j a' hj hC
    obtain rfl : j = ps_fa n := by omega
    rw [← Nat.succ_mul]
    exact br_t (nI_le (by omega) (by omega)) (nm_r (nI_1 i) (KJ a'))
  | succ d ih =>
    intro j a' hj hC
    have hjN : j < ps_fa n := by omega
    have ht : i * ps_fa n + j < ps_fa n * ps_fa n := by
      have h1 : (i + 1) * ps_fa n ≤ ps_fa n * ps_fa n := Nat.mul_le_mul_right _ hi
      rw [Nat.succ_mul] at h1
      omega
    have eK := ps_eX_eq (n := n) (i := i) hjN
    have hF := ev_XLFa h0 hn (ps_eX_mem ht)
    have hG0 := ps_ac_Gd (ev_xl h0 hn hi) (ev_xl h0 hn hjN)
    refine br_f (nI_ge hjN (by omega)) (xx_setG (o := 2) h0 hn (Or.inr rfl) hjN (fun a2 hC2 hO => ?_))
    have hC1 : ps_Cl a2 n 0 (ps_xl n i) := fun p hp => by
      rw [hO _ (by omega) (by omega), hO _ (by omega) (by omega)]
      exact hC p hp
    have hI : ps_XI a2 n (ps_gk n (ps_eX n (i * ps_fa n + j))) := ps_XI_c (ps_Cl_XI hC1 hC2) (fun l hl p hp => by rw [eK]; exact ps_gk_ky hn hG0 l p hl hp)
    refine xx_rh hn hI hF.1 hr hc ?_
    have hq := ih (j + 1) a2 (by omega) hC1
    cases hH : ps_hb n c ln rl (ps_gk n (ps_eX n (i * ps_fa n + j))) with
    | false =>
      rw [← Nat.add_assoc, ps_ct_f (e := ps_eX n) (H := ps_H n c ln rl) hH] at hq
      exact br_t rfl (nm_r (nI_1 j) hq)
    | true =>
      rw [← Nat.add_assoc, ps_ct_t (e := ps_eX n) (H := ps_H n c ln rl) hH] at hq
      exact br_f (by decide) (nm_r (nI_1 _) (nm_r (nI_1 j) hq))
theorem xx_ac21 {post : Int32 → SX → Prop} {n : Nat} (h0 : 0 < n) (hn : n ≤ 5) (hr : ps_Ru c ln rl ra le) (hc : c ≤ 4) (K : ∀ a', post (nI ((ps_XL n).countP (ps_H n c ln rl))) (nI L, nI c, tc, w, ra, le, a', tk, nn, mp, fs, ss)) : ∀ d i a', i + d = ps_fa n → wX_actions_21 post (nI n) (nI (ps_fa n)) (d + 1) (nI (((List.range (i * ps_fa n)).map (ps_eX n)).countP (ps_H n c ln rl))) (nI i) (nI L) (nI c) tc w ra le a' tk nn mp fs ss := by
  have hfa := ev_fa hn
  intro d
  induction d with
  | zero =>
    intro i a' hi
    obtain rfl : i = ps_fa n := by omega
    exact br_t (nI_le (by omega) (by omega)) (K a')
  | succ d ih =>
    intro i a' hi
    exact br_f (nI_ge (by omega) (by omega)) (xx_setG (o := 0) h0 hn (Or.inl rfl) (by omega) (fun a2 hC _ => ⟨ps_fa n + 1, xx_ac38 h0 hn hr hc (by omega) (fun a' => ih (i + 1) a' (by omega)) (ps_fa n) 0 a2 (by omega) hC⟩))
theorem xx_actions_b {post : Int32 → SX → Prop} {v : Int32} (h : v < 1 ∨ 5 < v) (k : post (-1) (nI L, nI c, tc, w, ra, le, im, tk, nn, mp, fs, ss)) : wpX_actions post (nI L, nI c, tc, w, ra, le, im, tk, nn, mp, fs, ss) v := by
  unfold wpX_actions
  dsimp only
  exact xx_isP_b h (br_t rfl k)
theorem xx_actions_o {post : Int32 → SX → Prop} {n : Nat} (h0 : 0 < n) (hn : n ≤ 5) (hL : L ≤ 8) (hc : c ≤ 4) (hw : ps_Wo wn w) (hr : ps_Ru c ln rl ra le) (K : ∀ u', xx_OK L c wn ln rl u' → post (nI ((ps_XL n).countP (ps_H n c ln rl))) u') : wpX_actions post (nI L, nI c, tc, w, ra, le, im, tk, nn, mp, fs, ss) (nI n) := by
  unfold wpX_actions
  dsimp only
  refine xx_isP_o h0 hn (br_f (by decide) (xx_perm h0 hn ⟨ps_fa n + 1, ?_⟩))
  have h := xx_ac21 (L := L) (c := c) (tc := tc) (w := w) (ra := ra) (le := le) (tk := tk) (nn := nn) (mp := mp) (fs := fs) (ss := ss) h0 hn hr hc (fun a' => K _ (xx_mk hL hc hw hr)) (ps_fa n) 0 im (by omega)
  rw [Nat.zero_mul] at h
  exact h
end
