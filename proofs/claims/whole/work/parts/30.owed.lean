/-! what is owed -/
theorem ps_n5 (v : Int32) : (v < 1 ∨ 5 < v) ∨ ∃ n : Nat, 0 < n ∧ n ≤ 5 ∧ v = nI n := by
  rcases pk_ix v (n := 6) (by decide) with h | h | ⟨j, hj, rfl⟩
  · exact Or.inl (Or.inl (Int32.lt_trans h (by decide)))
  · exact Or.inl (Or.inr (Int32.lt_of_lt_of_le (show (5 : Int32) < nI 6 by decide) h))
  · by_cases e : j = 0
    · subst e
      exact Or.inl (Or.inl (by decide))
    · exact Or.inr ⟨j, by omega, by omega, rfl⟩
theorem ps_n1000 (v : Int32) : (v < 1 ∨ 1000 < v) ∨ ∃ n : Nat, 0 < n ∧ n ≤ 1000 ∧ v = nI n := by
  rcases pk_ix v (n := 1001) (by decide) with h | h | ⟨j, hj, rfl⟩
  · exact Or.inl (Or.inl (Int32.lt_trans h (by decide)))
  · exact Or.inl (Or.inr (Int32.lt_of_lt_of_le (show (1000 : Int32) < nI 1001 by decide) h))
  · by_cases e : j = 0
    · subst e
      exact Or.inl (Or.inl (by decide))
    · exact Or.inr ⟨j, by omega, by omega, rfl⟩
def i_Rel (k : Nat) (u : SX) (v : SY) : Prop :=
  ∃ (L c : Nat) (wn ln : Nat → Nat) (rl : Nat → Nat → Nat), xx_OK L c wn ln rl u ∧ yy_OK L c wn ln rl v
theorem i_up {k : Nat} {u : SX} {v : SY} (h : i_Rel k u v) : i_Rel (k + 5) u v :=
  h
theorem i_vc0 : wpX_init (fun u => wpY_init (fun v => i_Rel 0 u v)) :=
  ⟨0, 0, fun _ => 0, fun _ => 0, fun _ _ => 0, xx_mk (L := 0) (c := 0) (by omega) (by omega) (fun _ => ⟨by decide, rfl⟩) (fun k hk => absurd hk (Nat.not_lt_zero k)), yy_mk (L := 0) (c := 0) (by omega) (by omega) (fun _ => ⟨by decide, rfl⟩) (fun k hk => absurd hk (Nat.not_lt_zero k)) (ps_YC_0 (fun _ _ => rfl))⟩
theorem i_vc_letter {k : Nat} {u : SX} {v : SY} (I : i_Rel k u v) (hk : k + 5 ≤ 2560) (v1 : Int32) : wpX_letter (fun r u' => wpY_letter (fun r' v' => r' = r ∧ i_Rel (k + 5) u' v') v v1) u v1 := by
  obtain ⟨L, c, wn, ln, rl, hX, hY⟩ := I
  obtain ⟨tc, w, ra, le, im, tk, nn, mp, fs, ss, rfl, hL, hc, hw, hr⟩ := hX
  obtain ⟨mn, w2, le2, ra2, fi, se, pm, im2, ot, od, pl, kn, an, tb, ks, rfl, _, _, hw2, hr2, hC⟩ := hY
  rcases pk_ix v1 (n := 4) (by decide) with h | h | ⟨l, hl, rfl⟩
  · exact xx_letter_b (Or.inl h) (yy_letter_b (Or.inl h) ⟨rfl, L, c, wn, ln, rl, xx_mk hL hc hw hr, yy_mk hL hc hw2 hr2 hC⟩)
  · exact xx_letter_b (Or.inr h) (yy_letter_b (Or.inr h) ⟨rfl, L, c, wn, ln, rl, xx_mk hL hc hw hr, yy_mk hL hc hw2 hr2 hC⟩)
  · by_cases e : L = 8
    · exact xx_letter_f hl e (yy_letter_f hl e ⟨rfl, L, c, wn, ln, rl, xx_mk hL hc hw hr, yy_mk hL hc hw2 hr2 hC⟩)
    · exact xx_letter_o hl (by omega) (yy_letter_o hl (by omega) ⟨rfl, L + 1, c, ps_up wn L l, ln, rl, xx_mk (by omega) hc (ps_Wo_up hw L l hl) hr, yy_mk (by omega) hc (ps_Wo_up hw2 L l hl) hr2 hC⟩)
theorem i_vc_clear {k : Nat} {u : SX} {v : SY} (I : i_Rel k u v) (hk : k + 5 ≤ 2560) : wpX_clear (fun r u' => wpY_clear (fun r' v' => r' = r ∧ i_Rel (k + 5) u' v') v) u := by
  obtain ⟨L, c, wn, ln, rl, hX, hY⟩ := I
  obtain ⟨tc, w, ra, le, im, tk, nn, mp, fs, ss, rfl, hL, hc, hw, hr⟩ := hX
  obtain ⟨mn, w2, le2, ra2, fi, se, pm, im2, ot, od, pl, kn, an, tb, ks, rfl, _, _, hw2, hr2, hC⟩ := hY
  exact xx_clear (yy_clear ⟨rfl, 0, c, wn, ln, rl, xx_mk (by omega) hc hw hr, yy_mk (by omega) hc hw2 hr2 hC⟩)
theorem i_vc_invert {k : Nat} {u : SX} {v : SY} (I : i_Rel k u v) (hk : k + 5 ≤ 2560) : wpX_invert (fun r u' => wpY_invert (fun r' v' => r' = r ∧ i_Rel (k + 5) u' v') v) u := by
  obtain ⟨L, c, wn, ln, rl, hX, hY⟩ := I
  obtain ⟨tc, w, ra, le, im, tk, nn, mp, fs, ss, rfl, hL, hc, hw, hr⟩ := hX
  obtain ⟨mn, w2, le2, ra2, fi, se, pm, im2, ot, od, pl, kn, an, tb, ks, rfl, _, _, hw2, hr2, hC⟩ := hY
  exact xx_invert hL hw (fun w' hw' => yy_invert hL hw2 (fun w'' hw'' => ⟨rfl, L, c, ps_in L wn ((L + 1) / 2), ln, rl, xx_mk hL hc hw' hr, yy_mk hL hc hw'' hr2 hC⟩))
theorem i_vc_relate {k : Nat} {u : SX} {v : SY} (I : i_Rel k u v) (hk : k + 5 ≤ 2560) : wpX_relate (fun r u' => wpY_relate (fun r' v' => r' = r ∧ i_Rel (k + 5) u' v') v) u := by
  obtain ⟨L, c, wn, ln, rl, hX, hY⟩ := I
  obtain ⟨tc, w, ra, le, im, tk, nn, mp, fs, ss, rfl, hL, hc, hw, hr⟩ := hX
  obtain ⟨mn, w2, le2, ra2, fi, se, pm, im2, ot, od, pl, kn, an, tb, ks, rfl, _, _, hw2, hr2, hC⟩ := hY
  by_cases e : c = 4
  · exact xx_relate_f e (yy_relate_f e ⟨rfl, L, c, wn, ln, rl, xx_mk hL hc hw hr, yy_mk hL hc hw2 hr2 hC⟩)
  · exact xx_relate_o hL (by omega) hw hr (fun ra' le' h' => yy_relate_o hL (by omega) hw2 hr2 (fun ra'' le'' kn'' h'' hk => ⟨rfl, L, c + 1, wn, ps_up ln c L, (fun k => if k = c then wn else rl k), xx_mk hL (by omega) hw h', yy_mk hL (by omega) hw2 h'' (ps_YC_0 hk)⟩))
theorem i_vc_drop {k : Nat} {u : SX} {v : SY} (I : i_Rel k u v) (hk : k + 5 ≤ 2560) (v1 : Int32) : wpX_drop (fun r u' => wpY_drop (fun r' v' => r' = r ∧ i_Rel (k + 5) u' v') v v1) u v1 := by
  obtain ⟨L, c, wn, ln, rl, hX, hY⟩ := I
  obtain ⟨tc, w, ra, le, im, tk, nn, mp, fs, ss, rfl, hL, hc, hw, hr⟩ := hX
  obtain ⟨mn, w2, le2, ra2, fi, se, pm, im2, ot, od, pl, kn, an, tb, ks, rfl, _, _, hw2, hr2, hC⟩ := hY
  rcases pk_ix v1 (n := c) (by omega) with h | h | ⟨k, hk, rfl⟩
  · exact xx_drop_b (Or.inl h) (yy_drop_b (Or.inl h) ⟨rfl, L, c, wn, ln, rl, xx_mk hL hc hw hr, yy_mk hL hc hw2 hr2 hC⟩)
  · exact xx_drop_b (Or.inr h) (yy_drop_b (Or.inr h) ⟨rfl, L, c, wn, ln, rl, xx_mk hL hc hw hr, yy_mk hL hc hw2 hr2 hC⟩)
  · exact xx_drop_o hk hc hr (fun ra' le' h' => yy_drop_o hk hc hr2 (fun ra'' le'' kn'' h'' h6 => ⟨rfl, L, c - 1, wn, ps_dr k (c - 1) ln, ps_dr k (c - 1) rl, xx_mk hL (by omega) hw h', yy_mk hL (by omega) hw2 h'' (ps_YC_0 h6)⟩))
theorem i_vc_word {k : Nat} {u : SX} {v : SY} (I : i_Rel k u v) (hk : k + 5 ≤ 2560) : wpX_word (fun r => wpY_word (fun r' => r' = r ∧ i_Rel (k + 5) u v) v) u := by
  obtain ⟨L, c, wn, ln, rl, hX, hY⟩ := I
  obtain ⟨tc, w, ra, le, im, tk, nn, mp, fs, ss, rfl, hL, hc, hw, hr⟩ := hX
  obtain ⟨mn, w2, le2, ra2, fi, se, pm, im2, ot, od, pl, kn, an, tb, ks, rfl, _, _, hw2, hr2, hC⟩ := hY
  exact xx_word hL hw (yy_word hL hw2 ⟨rfl, L, c, wn, ln, rl, xx_mk hL hc hw hr, yy_mk hL hc hw2 hr2 hC⟩)
theorem i_vc_tables {k : Nat} {u : SX} {v : SY} (I : i_Rel k u v) (hk : k + 5 ≤ 2560) (v1 : Int32) : wpX_tables (fun r u' => wpY_tables (fun r' v' => r' = r ∧ i_Rel (k + 5) u' v') v v1) u v1 := by
  obtain ⟨L, c, wn, ln, rl, hX, hY⟩ := I
  obtain ⟨tc, w, ra, le, im, tk, nn, mp, fs, ss, rfl, hL, hc, hw, hr⟩ := hX
  obtain ⟨mn, w2, le2, ra2, fi, se, pm, im2, ot, od, pl, kn, an, tb, ks, rfl, _, _, hw2, hr2, hC⟩ := hY
  rcases ps_n5 v1 with h | ⟨n, h0, hn, rfl⟩
  · exact xx_tables_b h (yy_tables_b h ⟨rfl, L, c, wn, ln, rl, xx_mk hL hc hw hr, yy_mk hL hc hw2 hr2 hC⟩)
  · exact xx_tables_o h0 hn hL hc hw hr (fun u' hu => yy_tables_o h0 hn hL hc hw2 hr2 hC (fun v' hv => ⟨rfl, L, c, wn, ln, rl, hu, hv⟩))
theorem i_vc_image {k : Nat} {u : SX} {v : SY} (I : i_Rel k u v) (hk : k + 5 ≤ 2560) (v1 : Int32) (v2 : Int32) (v3 : Int32) (v4 : Int32) : wpX_image (fun r u' => wpY_image (fun r' v' => r' = r ∧ i_Rel (k + 5) u' v') v v1 v2 v3 v4) u v1 v2 v3 v4 := by
  obtain ⟨L, c, wn, ln, rl, hX, hY⟩ := I
  obtain ⟨tc, w, ra, le, im, tk, nn, mp, fs, ss, rfl, hL, hc, hw, hr⟩ := hX
  obtain ⟨mn, w2, le2, ra2, fi, se, pm, im2, ot, od, pl, kn, an, tb, ks, rfl, _, _, hw2, hr2, hC⟩ := hY
  rcases ps_n5 v1 with h | ⟨n, h0, hn, rfl⟩
  · exact xx_image_b1 h (yy_image_b1 h ⟨rfl, L, c, wn, ln, rl, xx_mk hL hc hw hr, yy_mk hL hc hw2 hr2 hC⟩)
  · rcases pk_ix v3 (n := n) (by omega) with h | h | ⟨p, hp, rfl⟩
    · exact xx_image_b2 h0 hn (Or.inl h) (yy_image_b2 h0 hn (Or.inl h) ⟨rfl, L, c, wn, ln, rl, xx_mk hL hc hw hr, yy_mk hL hc hw2 hr2 hC⟩)
    · exact xx_image_b2 h0 hn (Or.inr h) (yy_image_b2 h0 hn (Or.inr h) ⟨rfl, L, c, wn, ln, rl, xx_mk hL hc hw hr, yy_mk hL hc hw2 hr2 hC⟩)
    · rcases pk_ix v4 (n := 4) (by decide) with h | h | ⟨l, hl, rfl⟩
      · exact xx_image_b3 h0 hn hp (Or.inl h) (yy_image_b3 h0 hn hp (Or.inl h) ⟨rfl, L, c, wn, ln, rl, xx_mk hL hc hw hr, yy_mk hL hc hw2 hr2 hC⟩)
      · exact xx_image_b3 h0 hn hp (Or.inr h) (yy_image_b3 h0 hn hp (Or.inr h) ⟨rfl, L, c, wn, ln, rl, xx_mk hL hc hw hr, yy_mk hL hc hw2 hr2 hC⟩)
      · have hT := ps_TL_len (c := c) (ln := ln) (rl := rl) h0 hn
        rcases pk_ix v2 (n := (ps_TL n (ps_G n c ln rl)).length) (by omega) with h | h | ⟨k, hk, rfl⟩
        · exact xx_image_b4 h0 hn hp hl hL hc hw hr (Or.inl h) (fun u' hu => yy_image_b4 h0 hn hp hl hL hc hw2 hr2 hC (Or.inl h) (fun v' hv => ⟨rfl, L, c, wn, ln, rl, hu, hv⟩))
        · exact xx_image_b4 h0 hn hp hl hL hc hw hr (Or.inr h) (fun u' hu => yy_image_b4 h0 hn hp hl hL hc hw2 hr2 hC (Or.inr h) (fun v' hv => ⟨rfl, L, c, wn, ln, rl, hu, hv⟩))
        · exact xx_image_o h0 hn hp hl hL hc hw hr hk (fun u' hu => yy_image_o h0 hn hp hl hL hc hw2 hr2 hC hk (fun v' hv => ⟨rfl, L, c, wn, ln, rl, hu, hv⟩))
theorem i_vc_actions {k : Nat} {u : SX} {v : SY} (I : i_Rel k u v) (hk : k + 5 ≤ 2560) (v1 : Int32) : wpX_actions (fun r u' => wpY_actions (fun r' v' => r' = r ∧ i_Rel (k + 5) u' v') v v1) u v1 := by
  obtain ⟨L, c, wn, ln, rl, hX, hY⟩ := I
  obtain ⟨tc, w, ra, le, im, tk, nn, mp, fs, ss, rfl, hL, hc, hw, hr⟩ := hX
  obtain ⟨mn, w2, le2, ra2, fi, se, pm, im2, ot, od, pl, kn, an, tb, ks, rfl, _, _, hw2, hr2, hC⟩ := hY
  rcases ps_n5 v1 with h | ⟨n, h0, hn, rfl⟩
  · exact xx_actions_b h (yy_actions_b h ⟨rfl, L, c, wn, ln, rl, xx_mk hL hc hw hr, yy_mk hL hc hw2 hr2 hC⟩)
  · exact xx_actions_o h0 hn hL hc hw hr (fun u' hu => yy_actions_o h0 hn hL hc hw2 hr2 hC (fun v' hv => ⟨rfl, L, c, wn, ln, rl, hu, hv⟩))
theorem i_vc_even {k : Nat} {u : SX} {v : SY} (I : i_Rel k u v) (hk : k + 5 ≤ 2560) (v1 : Int32) : wpX_even (fun r u' => wpY_even (fun r' v' => r' = r ∧ i_Rel (k + 5) u' v') v v1) u v1 := by
  obtain ⟨L, c, wn, ln, rl, hX, hY⟩ := I
  obtain ⟨tc, w, ra, le, im, tk, nn, mp, fs, ss, rfl, hL, hc, hw, hr⟩ := hX
  obtain ⟨mn, w2, le2, ra2, fi, se, pm, im2, ot, od, pl, kn, an, tb, ks, rfl, _, _, hw2, hr2, hC⟩ := hY
  rcases ps_n5 v1 with h | ⟨n, h0, hn, rfl⟩
  · exact xx_even_b h (yy_even_b h ⟨rfl, L, c, wn, ln, rl, xx_mk hL hc hw hr, yy_mk hL hc hw2 hr2 hC⟩)
  · exact xx_even_o h0 hn hL hc hw hr (fun u' hu => yy_even_o h0 hn hL hc hw2 hr2 hC (fun v' hv => ⟨rfl, L, c, wn, ln, rl, hu, hv⟩))
theorem i_vc_kinds {k : Nat} {u : SX} {v : SY} (I : i_Rel k u v) (hk : k + 5 ≤ 2560) (v1 : Int32) : wpX_kinds (fun r u' => wpY_kinds (fun r' v' => r' = r ∧ i_Rel (k + 5) u' v') v v1) u v1 := by
  obtain ⟨L, c, wn, ln, rl, hX, hY⟩ := I
  obtain ⟨tc, w, ra, le, im, tk, nn, mp, fs, ss, rfl, hL, hc, hw, hr⟩ := hX
  obtain ⟨mn, w2, le2, ra2, fi, se, pm, im2, ot, od, pl, kn, an, tb, ks, rfl, _, _, hw2, hr2, hC⟩ := hY
  rcases ps_n5 v1 with h | ⟨n, h0, hn, rfl⟩
  · exact xx_kinds_b h (yy_kinds_b h ⟨rfl, L, c, wn, ln, rl, xx_mk hL hc hw hr, yy_mk hL hc hw2 hr2 hC⟩)
  · exact xx_kinds_o h0 hn hL hc hw hr (fun u' hu => yy_kinds_o h0 hn hL hc hw2 hr2 hC (fun v' hv => ⟨rfl, L, c, wn, ln, rl, hu, hv⟩))
theorem i_vc_period {k : Nat} {u : SX} {v : SY} (I : i_Rel k u v) (hk : k + 5 ≤ 2560) (v1 : Int32) (v2 : Int32) : wpX_period (fun r u' => wpY_period (fun r' v' => r' = r ∧ i_Rel (k + 5) u' v') v v1 v2) u v1 v2 := by
  obtain ⟨L, c, wn, ln, rl, hX, hY⟩ := I
  obtain ⟨tc, w, ra, le, im, tk, nn, mp, fs, ss, rfl, hL, hc, hw, hr⟩ := hX
  obtain ⟨mn, w2, le2, ra2, fi, se, pm, im2, ot, od, pl, kn, an, tb, ks, rfl, _, _, hw2, hr2, hC⟩ := hY
  rcases ps_n5 v1 with h | ⟨n, h0, hn, rfl⟩
  · exact xx_period_b h (yy_period_b h ⟨rfl, L, c, wn, ln, rl, xx_mk hL hc hw hr, yy_mk hL hc hw2 hr2 hC⟩)
  · have hT := ps_TL_len (c := c) (ln := ln) (rl := rl) h0 hn
    rcases pk_ix v2 (n := (ps_TL n (ps_G n c ln rl)).length) (by omega) with h | h | ⟨k, hk, rfl⟩
    · exact xx_period_n h0 hn hL hc hw hr (Or.inl h) (fun u' hu => yy_period_n h0 hn hL hc hw2 hr2 hC (Or.inl h) (fun v' hv => ⟨rfl, L, c, wn, ln, rl, hu, hv⟩))
    · exact xx_period_n h0 hn hL hc hw hr (Or.inr h) (fun u' hu => yy_period_n h0 hn hL hc hw2 hr2 hC (Or.inr h) (fun v' hv => ⟨rfl, L, c, wn, ln, rl, hu, hv⟩))
    · have hF := (ps_TLFa h0 hn hk).1
      obtain ⟨m, h1, hm, hz, hl⟩ := ps_per (F := ps_wk (ps_gk n ((ps_TL n (ps_G n c ln rl)).getD k 0)) wn L) h0 (fun p hp => ps_wk_lt hF.1 L p (fun j _ => (hw j).1) hp) (fun p q hp hq e => ps_wk_In hF.1 hF.2.1 L (fun j _ => (hw j).1) p q hp hq e)
      exact xx_period_o h0 hn hL hc hw hr hk h1 hm hz hl (fun u' hu => yy_period_o h0 hn hL hc hw2 hr2 hC hk h1 hz hl (fun v' hv => ⟨rfl, L, c, wn, ln, rl, hu, hv⟩))
theorem i_vc_fixing {k : Nat} {u : SX} {v : SY} (I : i_Rel k u v) (hk : k + 5 ≤ 2560) (v1 : Int32) : wpX_fixing (fun r u' => wpY_fixing (fun r' v' => r' = r ∧ i_Rel (k + 5) u' v') v v1) u v1 := by
  obtain ⟨L, c, wn, ln, rl, hX, hY⟩ := I
  obtain ⟨tc, w, ra, le, im, tk, nn, mp, fs, ss, rfl, hL, hc, hw, hr⟩ := hX
  obtain ⟨mn, w2, le2, ra2, fi, se, pm, im2, ot, od, pl, kn, an, tb, ks, rfl, _, _, hw2, hr2, hC⟩ := hY
  rcases ps_n5 v1 with h | ⟨n, h0, hn, rfl⟩
  · exact xx_fixing_b h (yy_fixing_b h ⟨rfl, L, c, wn, ln, rl, xx_mk hL hc hw hr, yy_mk hL hc hw2 hr2 hC⟩)
  · exact xx_fixing_o h0 hn hL hc hw hr (fun u' hu => yy_fixing_o h0 hn hL hc hw2 hr2 hC (fun v' hv => ⟨rfl, L, c, wn, ln, rl, hu, hv⟩))
theorem i_vc_still {k : Nat} {u : SX} {v : SY} (I : i_Rel k u v) (hk : k + 5 ≤ 2560) : wpX_still (fun r u' => wpY_still (fun r' v' => r' = r ∧ i_Rel (k + 5) u' v') v) u := by
  obtain ⟨L, c, wn, ln, rl, hX, hY⟩ := I
  obtain ⟨tc, w, ra, le, im, tk, nn, mp, fs, ss, rfl, hL, hc, hw, hr⟩ := hX
  obtain ⟨mn, w2, le2, ra2, fi, se, pm, im2, ot, od, pl, kn, an, tb, ks, rfl, _, _, hw2, hr2, hC⟩ := hY
  exact xx_still hL hc hw hr (fun u' hu => yy_still hL hc hw2 hr2 hC (fun v' hv => ⟨rfl, L, c, wn, ln, rl, hu, hv⟩))
theorem i_vc_cyclic {k : Nat} {u : SX} {v : SY} (I : i_Rel k u v) (hk : k + 5 ≤ 2560) (v1 : Int32) : wpX_cyclic (fun r u' => wpY_cyclic (fun r' v' => r' = r ∧ i_Rel (k + 5) u' v') v v1) u v1 := by
  obtain ⟨L, c, wn, ln, rl, hX, hY⟩ := I
  obtain ⟨tc, w, ra, le, im, tk, nn, mp, fs, ss, rfl, hL, hc, hw, hr⟩ := hX
  obtain ⟨mn, w2, le2, ra2, fi, se, pm, im2, ot, od, pl, kn, an, tb, ks, rfl, _, _, hw2, hr2, hC⟩ := hY
  rcases ps_n1000 v1 with h | ⟨m, h0, hm, rfl⟩
  · exact xx_cyclic_b h (yy_cyclic_b h ⟨rfl, L, c, wn, ln, rl, xx_mk hL hc hw hr, yy_mk hL hc hw2 hr2 hC⟩)
  · exact xx_cyclic_o h0 hm hL hc hw hr (fun u' hu => yy_cyclic_o h0 hm hL hc hw2 hr2 hC (fun v' hv => ⟨rfl, L, c, wn, ln, rl, hu, hv⟩))
