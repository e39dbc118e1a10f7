/-! the reference: a table at hand; tables, image, actions -/
def yy_OK (L c : Nat) (wn ln : Nat → Nat) (rl : Nat → Nat → Nat) (v : SY) : Prop := ∃ (mn : Int32) (w le ra fi se pm im ot od pl kn an tb : Nat → Int32) (ks : Nat → Int64), v = (nI L, nI c, mn, w, le, ra, fi, se, pm, im, ot, od, pl, kn, an, tb, ks) ∧ L ≤ 8 ∧ c ≤ 4 ∧ ps_Wo wn w ∧ ps_Ru c ln rl ra le ∧ ps_YC c ln rl kn an tb ks
theorem ps_YC_at {c : Nat} {ln : Nat → Nat} {rl : Nat → Nat → Nat} {kn an tb : Nat → Int32} {ks : Nat → Int64} (h : ps_YC c ln rl kn an tb ks) {n : Nat} (h0 : 0 < n) (hn : n ≤ 5) (hk : ¬ kn n = 0) : an n = nI ((ps_XL n).countP (ps_H n c ln rl)) ∧ tb n = nI (ps_TL n (ps_G n c ln rl)).length ∧ ps_Ar ks (461 * n) ((ps_TL n (ps_G n c ln rl)).map (ps_cv (4 * n))) := by
  rcases h n h0 hn with h | h
  · exact absurd h hk
  · exact h.2
theorem ps_YC_0 {c : Nat} {ln : Nat → Nat} {rl : Nat → Nat → Nat} {kn an tb : Nat → Int32} {ks : Nat → Int64} (h : ∀ n, n < 6 → kn n = 0) : ps_YC c ln rl kn an tb ks := fun n _ hn => Or.inl (h n (by omega))
theorem ps_ks {n k c : Nat} {ln : Nat → Nat} {rl : Nat → Nat → Nat} {ks : Nat → Int64} (h : ps_Ar ks (461 * n) ((ps_TL n (ps_G n c ln rl)).map (ps_cv (4 * n)))) (hk : k < (ps_TL n (ps_G n c ln rl)).length) : ks (461 * n + k) = lN (ps_cv (4 * n) ((ps_TL n (ps_G n c ln rl)).getD k 0)) := by
  rw [h k (by rw [List.length_map]; exact hk), ps_gM (d := 0) hk]
section
variable {L c : Nat} {mn : Int32} {w le ra fi se pm im ot od pl kn an tb : Nat → Int32} {ks : Nat → Int64}
variable {wn ln : Nat → Nat} {rl : Nat → Nat → Nat}
theorem yy_mk (hL : L ≤ 8) (hc : c ≤ 4) (hw : ps_Wo wn w) (hr : ps_Ru c ln rl ra le) (hY : ps_YC c ln rl kn an tb ks) : yy_OK L c wn ln rl (nI L, nI c, mn, w, le, ra, fi, se, pm, im, ot, od, pl, kn, an, tb, ks) := ⟨mn, w, le, ra, fi, se, pm, im, ot, od, pl, kn, an, tb, ks, rfl, hL, hc, hw, hr, hY⟩
theorem yy_sp26 {post : SY → Prop} {J : Int64 → Int32 → (Nat → Int32) → (Nat → Int32) → (Nat → Int32) → (Nat → Int32) → (Nat → Int32) → (Nat → Int32) → (Nat → Int32) → (Nat → Int32) → (Nat → Int32) → (Nat → Int32) → (Nat → Int32) → (Nat → Int32) → (Nat → Int32) → (Nat → Int64) → Prop} {n p K : Nat} (hn : n ≤ 5) (hp : p < n) (hK : ps_D5 (4 * n) K) (KJ : ∀ im' x5', x5' = nI p - 1 → (∀ l, l < 4 → ∀ q, q < n → 4 * p ≤ 4 * q + l → im' (5 * l + q) = nI (ps_gk n K l q)) → J (lN (ps_cv (4 * p) (K / 8 ^ (4 * n - 4 * p)))) x5' w le ra fi se pm im' ot od pl kn an tb ks) : ∀ s x6 im', s ≤ 4 → x6 = nI s - 1 → (∀ l, l < 4 → ∀ q, q < n → 4 * p + s ≤ 4 * q + l → im' (5 * l + q) = nI (ps_gk n K l q)) → wY_spread_26 post J (nI p) (nI L) (nI c) mn (s + 1) (lN (ps_cv (4 * p + s) (K / 8 ^ (4 * n - (4 * p + s))))) x6 w le ra fi se pm im' ot od pl kn an tb ks := by
  intro s
  induction s with
  | zero =>
    intro x6 im' hs hx h
    exact br_t (by rw [hx]; decide) (nm_e (KJ im' _ (by rw [Int32.sub_eq_add_neg]) h))
  | succ s ih =>
    intro x6 im' hs hx h
    have ex : x6 = nI s := by rw [hx]; exact nI_pred s
    subst ex
    have hM : ps_D5 (4 * p + s + 1) (K / 8 ^ (4 * n - (4 * p + (s + 1)))) := ps_D5_sh (4 * n - (4 * p + (s + 1))) (4 * p + s + 1) K (by rw [show 4 * n - (4 * p + (s + 1)) + (4 * p + s + 1) = 4 * n by omega]; exact hK)
    have hb : ps_cv (4 * p + s + 1) (K / 8 ^ (4 * n - (4 * p + (s + 1)))) < 2 ^ 63 := by
      refine Nat.lt_of_lt_of_le (ps_cv_5 _ _ hM) (Nat.le_trans (Nat.pow_le_pow_right (n := 5) (by decide) (show 4 * p + s + 1 ≤ 20 by omega)) (by decide))
    have hdm := ps_cv_dm hM
    have ed : K / 8 ^ (4 * n - (4 * p + (s + 1))) / 8 = K / 8 ^ (4 * n - (4 * p + s)) := by
      rw [Nat.div_div_eq_div_mul, ← Nat.pow_succ]
      congr 2
      omega
    have e1 : (lN (ps_cv (4 * p + (s + 1)) (K / 8 ^ (4 * n - (4 * p + (s + 1))))) - lN (ps_cv (4 * p + (s + 1)) (K / 8 ^ (4 * n - (4 * p + (s + 1))))) / 5 * 5).toInt32 = nI (ps_gk n K s p) := by
      have r := pk_lRem (b := 5) hb (by decide) (by decide)
      rw [hdm.2] at r
      have r' : lN (ps_cv (4 * p + (s + 1)) (K / 8 ^ (4 * n - (4 * p + (s + 1))))) - lN (ps_cv (4 * p + (s + 1)) (K / 8 ^ (4 * n - (4 * p + (s + 1))))) / 5 * 5 = lN (K / 8 ^ (4 * n - (4 * p + (s + 1))) % 8) := r
      rw [r', lN_i, ps_gk, show 4 * n - 1 - (4 * p + s) = 4 * n - (4 * p + (s + 1)) by omega]
    have e2 : lN (ps_cv (4 * p + (s + 1)) (K / 8 ^ (4 * n - (4 * p + (s + 1))))) / 5 = lN (ps_cv (4 * p + s) (K / 8 ^ (4 * n - (4 * p + s)))) := by
      have r := pk_lDiv (b := 5) hb (by decide) (by decide)
      rw [hdm.1, ed] at r
      exact r
    refine br_f (nI_pos (by omega)) ⟨by decide, ⟨pk_in (5 * s + p) 20 (by omega) (ps_5x s p), nm_r (e' := upd im' (5 * s + p) (nI (ps_gk n K s p))) (ps_wr (ps_5x s p) (by omega) e1) ⟨by decide, nm_r e2 (nm_e (ih _ _ (by omega) ?_ ?_))⟩⟩⟩
    · rw [Int32.sub_eq_add_neg]
    · intro l hl q hq h4
      by_cases e : l = s ∧ q = p
      · rw [e.1, e.2]
        exact pk_us
      · rw [pk_un (by omega)]
        exact h l hl q hq (by omega)
theorem yy_sp18 {post : SY → Prop} {n K : Nat} (hn : n ≤ 5) (hK : ps_D5 (4 * n) K) (KK : ∀ im', ps_YI im' n (ps_gk n K) → post (nI L, nI c, mn, w, le, ra, fi, se, pm, im', ot, od, pl, kn, an, tb, ks)) : ∀ q x5 im', q ≤ n → x5 = nI q - 1 → (∀ l, l < 4 → ∀ r, r < n → 4 * q ≤ 4 * r + l → im' (5 * l + r) = nI (ps_gk n K l r)) → wY_spread_18 post (nI L) (nI c) mn (q + 1) (lN (ps_cv (4 * q) (K / 8 ^ (4 * n - 4 * q)))) x5 w le ra fi se pm im' ot od pl kn an tb ks := by
  intro q
  induction q with
  | zero =>
    intro x5 im' hq hx h
    exact br_t (by rw [hx]; decide) (KK im' (fun l hl r hr => h l hl r hr (by omega)))
  | succ q ih =>
    intro x5 im' hq hx h
    have ex : x5 = nI q := by rw [hx]; exact nI_pred q
    subst ex
    exact br_f (nI_pos (by omega)) ⟨5, yy_sp26 hn (by omega) hK (fun im2 x5' e h2 => ih x5' im2 (by omega) e h2) 4 3 im' (by omega) (by decide) (fun l hl r hr h4 => h l hl r hr (by omega))⟩
theorem yy_spread {post : SY → Prop} {n k K : Nat} (hn : n ≤ 5) (hk : k < 461) (hks : ks (461 * n + k) = lN (ps_cv (4 * n) K)) (hK : ps_D5 (4 * n) K) (KK : ∀ im', ps_YI im' n (ps_gk n K) → post (nI L, nI c, mn, w, le, ra, fi, se, pm, im', ot, od, pl, kn, an, tb, ks)) : wpY_spread post (nI L, nI c, mn, w, le, ra, fi, se, pm, im, ot, od, pl, kn, an, tb, ks) (nI n) (nI k) := by
  refine ⟨pk_in (461 * n + k) 2766 (by omega) (ps_46x n k), nm_r (e' := lN (ps_cv (4 * n) K)) (ps_rdL (ps_46x n k) (by omega) hks) (nm_e ⟨n + 1, ?_⟩)⟩
  have h := yy_sp18 (L := L) (c := c) (mn := mn) (w := w) (le := le) (ra := ra) (fi := fi) (se := se) (pm := pm) (ot := ot) (od := od) (pl := pl) (kn := kn) (an := an) (tb := tb) (ks := ks) hn hK KK n (nI n - 1) im (Nat.le_refl _) rfl (fun l hl r hr h4 => by omega)
  rw [Nat.sub_self, Nat.pow_zero, Nat.div_one] at h
  exact h
theorem yy_tables_b {post : Int32 → SY → Prop} {v : Int32} (h : v < 1 ∨ 5 < v) (k : post (-1) (nI L, nI c, mn, w, le, ra, fi, se, pm, im, ot, od, pl, kn, an, tb, ks)) : wpY_tables post (nI L, nI c, mn, w, le, ra, fi, se, pm, im, ot, od, pl, kn, an, tb, ks) v := by
  unfold wpY_tables
  dsimp only
  exact yy_bad_b h (br_f (by decide) k)
theorem yy_tables_o {post : Int32 → SY → Prop} {n : Nat} (h0 : 0 < n) (hn : n ≤ 5) (hL : L ≤ 8) (hc : c ≤ 4) (hw : ps_Wo wn w) (hr : ps_Ru c ln rl ra le) (hY : ps_YC c ln rl kn an tb ks) (K : ∀ u', yy_OK L c wn ln rl u' → post (nI (ps_TL n (ps_G n c ln rl)).length) u') : wpY_tables post (nI L, nI c, mn, w, le, ra, fi, se, pm, im, ot, od, pl, kn, an, tb, ks) (nI n) := by
  unfold wpY_tables
  dsimp only
  refine yy_bad_o h0 hn (br_t rfl (yy_work h0 hn hr hc hY (fun mn' pm' im' kn' an' tb' ks' hY' hk => ⟨vp_in_nI (by omega) (by decide), ?_⟩)))
  dsimp only
  rw [ps_rd rfl (by omega) (ps_YC_at hY' h0 hn hk).2.1]
  exact K _ (yy_mk hL hc hw hr hY')
theorem yy_actions_b {post : Int32 → SY → Prop} {v : Int32} (h : v < 1 ∨ 5 < v) (k : post (-1) (nI L, nI c, mn, w, le, ra, fi, se, pm, im, ot, od, pl, kn, an, tb, ks)) : wpY_actions post (nI L, nI c, mn, w, le, ra, fi, se, pm, im, ot, od, pl, kn, an, tb, ks) v := by
  unfold wpY_actions
  dsimp only
  exact yy_bad_b h (br_f (by decide) k)
theorem yy_actions_o {post : Int32 → SY → Prop} {n : Nat} (h0 : 0 < n) (hn : n ≤ 5) (hL : L ≤ 8) (hc : c ≤ 4) (hw : ps_Wo wn w) (hr : ps_Ru c ln rl ra le) (hY : ps_YC c ln rl kn an tb ks) (K : ∀ u', yy_OK L c wn ln rl u' → post (nI ((ps_XL n).countP (ps_H n c ln rl))) u') : wpY_actions post (nI L, nI c, mn, w, le, ra, fi, se, pm, im, ot, od, pl, kn, an, tb, ks) (nI n) := by
  unfold wpY_actions
  dsimp only
  refine yy_bad_o h0 hn (br_t rfl (yy_work h0 hn hr hc hY (fun mn' pm' im' kn' an' tb' ks' hY' hk => ⟨vp_in_nI (by omega) (by decide), ?_⟩)))
  dsimp only
  rw [ps_rd rfl (by omega) (ps_YC_at hY' h0 hn hk).1]
  exact K _ (yy_mk hL hc hw hr hY')
theorem yy_noT_b {post : Int32 → SY → Prop} {n : Nat} {v : Int32} (h0 : 0 < n) (hn : n ≤ 5) (hL : L ≤ 8) (hc : c ≤ 4) (hw : ps_Wo wn w) (hr : ps_Ru c ln rl ra le) (hY : ps_YC c ln rl kn an tb ks) (h : v < 0 ∨ nI (ps_TL n (ps_G n c ln rl)).length ≤ v) (K : ∀ u', yy_OK L c wn ln rl u' → post 1 u') : wpY_noTable post (nI L, nI c, mn, w, le, ra, fi, se, pm, im, ot, od, pl, kn, an, tb, ks) (nI n) v := by
  unfold wpY_noTable
  dsimp only
  refine yy_work h0 hn hr hc hY (fun mn' pm' im' kn' an' tb' ks' hY' hk => ?_)
  dsimp only
  by_cases z : v < 0
  · exact br_t z (K _ (yy_mk hL hc hw hr hY'))
  · rcases h with h | h
    · exact absurd h z
    · refine br_f z ⟨vp_in_nI (by omega) (by decide), br_f ?_ (K _ (yy_mk hL hc hw hr hY'))⟩
      rw [ps_rd rfl (by omega) (ps_YC_at hY' h0 hn hk).2.1]
      exact Int32.not_lt.mpr h
theorem yy_noT_o {post : Int32 → SY → Prop} {n k : Nat} (h0 : 0 < n) (hn : n ≤ 5) (hr : ps_Ru c ln rl ra le) (hc : c ≤ 4) (hY : ps_YC c ln rl kn an tb ks) (h : k < (ps_TL n (ps_G n c ln rl)).length) (K : ∀ mn' pm' im' kn' an' tb' ks', ps_YC c ln rl kn' an' tb' ks' → ¬ kn' n = 0 → post 0 (nI L, nI c, mn', w, le, ra, fi, se, pm', im', ot, od, pl, kn', an', tb', ks')) : wpY_noTable post (nI L, nI c, mn, w, le, ra, fi, se, pm, im, ot, od, pl, kn, an, tb, ks) (nI n) (nI k) := by
  have hT := ps_TL_len (c := c) (ln := ln) (rl := rl) h0 hn
  unfold wpY_noTable
  dsimp only
  refine yy_work h0 hn hr hc hY (fun mn' pm' im' kn' an' tb' ks' hY' hk => ?_)
  dsimp only
  refine br_f (nI_pos (by omega)) ⟨vp_in_nI (by omega) (by decide), br_t ?_ (K _ _ _ _ _ _ _ hY' hk)⟩
  rw [ps_rd rfl (by omega) (ps_YC_at hY' h0 hn hk).2.1]
  exact nI_lt h (by omega)
theorem yy_image_b1 {post : Int32 → SY → Prop} {v v2 v3 v4 : Int32} (h : v < 1 ∨ 5 < v) (k : post (-1) (nI L, nI c, mn, w, le, ra, fi, se, pm, im, ot, od, pl, kn, an, tb, ks)) : wpY_image post (nI L, nI c, mn, w, le, ra, fi, se, pm, im, ot, od, pl, kn, an, tb, ks) v v2 v3 v4 := by
  unfold wpY_image
  dsimp only
  exact yy_bad_b h (br_f (by decide) k)
theorem yy_image_b2 {post : Int32 → SY → Prop} {n : Nat} {v2 v3 v4 : Int32} (h0 : 0 < n) (hn : n ≤ 5) (h : v3 < 0 ∨ nI n ≤ v3) (k : post (-1) (nI L, nI c, mn, w, le, ra, fi, se, pm, im, ot, od, pl, kn, an, tb, ks)) : wpY_image post (nI L, nI c, mn, w, le, ra, fi, se, pm, im, ot, od, pl, kn, an, tb, ks) (nI n) v2 v3 v4 := by
  unfold wpY_image
  dsimp only
  refine yy_bad_o h0 hn (br_t rfl ?_)
  by_cases z : v3 < 0
  · exact br_t z k
  · rcases h with h | h
    · exact absurd h z
    · exact br_f z (br_t h k)
theorem yy_image_b3 {post : Int32 → SY → Prop} {n p : Nat} {v2 v4 : Int32} (h0 : 0 < n) (hn : n ≤ 5) (hp : p < n) (h : v4 < 0 ∨ nI 4 ≤ v4) (k : post (-1) (nI L, nI c, mn, w, le, ra, fi, se, pm, im, ot, od, pl, kn, an, tb, ks)) : wpY_image post (nI L, nI c, mn, w, le, ra, fi, se, pm, im, ot, od, pl, kn, an, tb, ks) (nI n) v2 (nI p) v4 := by
  unfold wpY_image
  dsimp only
  refine yy_bad_o h0 hn (br_t rfl (br_f (nI_pos (by omega)) (br_f (nI_ge hp (by omega)) ?_)))
  by_cases z : v4 < 0
  · exact br_t z k
  · rcases h with h | h
    · exact absurd h z
    · exact br_f z (br_f (fun q => absurd (Int32.le_trans h q) (by decide)) k)
theorem yy_image_b4 {post : Int32 → SY → Prop} {n p l : Nat} {v2 : Int32} (h0 : 0 < n) (hn : n ≤ 5) (hp : p < n) (hl : l < 4) (hL : L ≤ 8) (hc : c ≤ 4) (hw : ps_Wo wn w) (hr : ps_Ru c ln rl ra le) (hY : ps_YC c ln rl kn an tb ks) (h : v2 < 0 ∨ nI (ps_TL n (ps_G n c ln rl)).length ≤ v2) (K : ∀ u', yy_OK L c wn ln rl u' → post (-4) u') : wpY_image post (nI L, nI c, mn, w, le, ra, fi, se, pm, im, ot, od, pl, kn, an, tb, ks) (nI n) v2 (nI p) (nI l) := by
  unfold wpY_image
  dsimp only
  refine yy_bad_o h0 hn (br_t rfl (br_f (nI_pos (by omega)) (br_f (nI_ge hp (by omega)) (br_f (nI_pos (by omega)) (br_t (nI_le (b := 3) (by omega) (by decide)) (yy_noT_b h0 hn hL hc hw hr hY h (fun u' hu => ?_)))))))
  obtain ⟨mn, w, le, ra, fi, se, pm, im, ot, od, pl, kn, an, tb, ks, rfl, r⟩ := hu
  exact br_f (by decide) (K _ ⟨mn, w, le, ra, fi, se, pm, im, ot, od, pl, kn, an, tb, ks, rfl, r⟩)
theorem yy_image_o {post : Int32 → SY → Prop} {n p l k : Nat} (h0 : 0 < n) (hn : n ≤ 5) (hp : p < n) (hl : l < 4) (hL : L ≤ 8) (hc : c ≤ 4) (hw : ps_Wo wn w) (hr : ps_Ru c ln rl ra le) (hY : ps_YC c ln rl kn an tb ks) (h : k < (ps_TL n (ps_G n c ln rl)).length) (K : ∀ u', yy_OK L c wn ln rl u' → post (nI (ps_gk n ((ps_TL n (ps_G n c ln rl)).getD k 0) l p)) u') : wpY_image post (nI L, nI c, mn, w, le, ra, fi, se, pm, im, ot, od, pl, kn, an, tb, ks) (nI n) (nI k) (nI p) (nI l) := by
  have hT := ps_TL_len (c := c) (ln := ln) (rl := rl) h0 hn
  have hF := (ps_TLFa h0 hn h).1
  unfold wpY_image
  dsimp only
  refine yy_bad_o h0 hn (br_t rfl (br_f (nI_pos (by omega)) (br_f (nI_ge hp (by omega)) (br_f (nI_pos (by omega)) (br_t (nI_le (b := 3) (by omega) (by decide)) (yy_noT_o h0 hn hr hc hY h (fun mn' pm' im' kn' an' tb' ks' hY' hk => br_t rfl (yy_spread hn (by omega) (ps_ks (ps_YC_at hY' h0 hn hk).2.2 h) hF.2.2 (fun im2 hI => ⟨pk_in (5 * l + p) 20 (by omega) (ps_5x l p), ?_⟩)))))))))
  dsimp only
  rw [ps_rd (ps_5x l p) (by omega) (hI l hl p hp)]
  exact K _ (yy_mk hL hc hw hr hY')
end
