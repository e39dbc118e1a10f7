/-! the reference: the word in a table; period, fixing, still; cyclic -/
section
variable {L c : Nat} {mn : Int32} {w le ra fi se pm im ot od pl kn an tb : Nat → Int32} {ks : Nat → Int64}
variable {wn ln : Nat → Nat} {rl : Nat → Nat → Nat}
theorem yy_go4 {post : Int32 → Prop} {n p : Nat} {g : Nat → Nat → Nat} (hn : n ≤ 5) (hI : ps_YI im n g) (hg : ps_Gd n g) (hL : L ≤ 8) (hw : ps_Wo wn w) (hp : p < n) (K : post (nI (ps_wk g wn L p))) : ∀ d i, i + d = L → wY_go_4 post (nI L) (nI c) mn w le ra fi se pm im ot od pl kn an tb ks (d + 1) (nI (ps_wk g wn i p)) (nI i) := by
  intro d
  induction d with
  | zero =>
    intro i hi
    obtain rfl : i = L := by omega
    exact br_t (nI_le (by omega) (by omega)) K
  | succ d ih =>
    intro i hi
    have h4 := (hw i).1
    have hat := ps_wk_lt (r := wn) hg i p (fun j hj => (hw j).1) hp
    have er : w (nI i).toNatClampNeg = nI (wn i) := ps_rd rfl (by omega) (hw i).2
    have ex : (5 * w (nI i).toNatClampNeg) + nI (ps_wk g wn i p) = nI (5 * wn i + ps_wk g wn i p) := by rw [er]; exact ps_5x _ _
    exact br_f (nI_ge (by omega) (by omega)) ⟨vp_in_nI (by omega) (by decide), ⟨pk_in (5 * wn i + ps_wk g wn i p) 20 (by omega) ex, nm_r (e' := nI (ps_wk g wn (i + 1) p)) (ps_rd ex (by omega) (hI _ h4 _ hat)) (nm_r (nI_1 i) (ih (i + 1) (by omega)))⟩⟩
theorem yy_go {post : Int32 → Prop} {n p : Nat} {g : Nat → Nat → Nat} (hn : n ≤ 5) (hI : ps_YI im n g) (hg : ps_Gd n g) (hL : L ≤ 8) (hw : ps_Wo wn w) (hp : p < n) (K : post (nI (ps_wk g wn L p))) : wpY_go post (nI L, nI c, mn, w, le, ra, fi, se, pm, im, ot, od, pl, kn, an, tb, ks) (nI p) := ⟨L + 1, yy_go4 hn hI hg hL hw hp K L 0 (by omega)⟩
theorem yy_per37 {post : Int32 → SY → Prop} {n m : Nat} {g : Nat → Nat → Nat} (h0 : 0 < n) (hn : n ≤ 5) (hI : ps_YI im n g) (hg : ps_Gd n g) (hL : L ≤ 8) (hw : ps_Wo wn w) (hz : ps_it (ps_wk g wn L) m = 0) (hl : ∀ j, 1 ≤ j → j < m → ps_it (ps_wk g wn L) j ≠ 0) (K : post (nI m) (nI L, nI c, mn, w, le, ra, fi, se, pm, im, ot, od, pl, kn, an, tb, ks)) : ∀ d t, t + d = m → 1 ≤ t → wY_period_37 post (nI L) (nI c) mn w le ra fi se pm im ot od pl kn an tb ks (d + 1) (nI t) (nI (ps_it (ps_wk g wn L) t)) := by
  intro d
  induction d with
  | zero =>
    intro t ht h1
    obtain rfl : t = m := by omega
    exact br_t (by rw [hz]; rfl) K
  | succ d ih =>
    intro t ht h1
    have hlt : ps_it (ps_wk g wn L) t < n := ps_it_lt h0 (fun p hp => ps_wk_lt hg L p (fun j hj => (hw j).1) hp) t
    have hne := hl t h1 (by omega)
    exact br_f (nI_ne0 (by omega) (by omega)) (yy_go hn hI hg hL hw hlt (nm_r (nI_1 t) (ih (t + 1) (by omega) (by omega))))
theorem yy_period_b {post : Int32 → SY → Prop} {v v2 : Int32} (h : v < 1 ∨ 5 < v) (k : post (-1) (nI L, nI c, mn, w, le, ra, fi, se, pm, im, ot, od, pl, kn, an, tb, ks)) : wpY_period post (nI L, nI c, mn, w, le, ra, fi, se, pm, im, ot, od, pl, kn, an, tb, ks) v v2 := by
  unfold wpY_period
  dsimp only
  exact yy_bad_b h (br_f (by decide) k)
theorem yy_period_n {post : Int32 → SY → Prop} {n : Nat} {v2 : Int32} (h0 : 0 < n) (hn : n ≤ 5) (hL : L ≤ 8) (hc : c ≤ 4) (hw : ps_Wo wn w) (hr : ps_Ru c ln rl ra le) (hY : ps_YC c ln rl kn an tb ks) (h : v2 < 0 ∨ nI (ps_TL n (ps_G n c ln rl)).length ≤ v2) (K : ∀ u', yy_OK L c wn ln rl u' → post (-4) u') : wpY_period post (nI L, nI c, mn, w, le, ra, fi, se, pm, im, ot, od, pl, kn, an, tb, ks) (nI n) v2 := by
  unfold wpY_period
  dsimp only
  refine yy_bad_o h0 hn (br_t rfl (yy_noT_b h0 hn hL hc hw hr hY h (fun u' hu => ?_)))
  obtain ⟨mn, w, le, ra, fi, se, pm, im, ot, od, pl, kn, an, tb, ks, rfl, r⟩ := hu
  exact br_f (by decide) (K _ ⟨mn, w, le, ra, fi, se, pm, im, ot, od, pl, kn, an, tb, ks, rfl, r⟩)
theorem yy_period_o {post : Int32 → SY → Prop} {n k m : Nat} (h0 : 0 < n) (hn : n ≤ 5) (hL : L ≤ 8) (hc : c ≤ 4) (hw : ps_Wo wn w) (hr : ps_Ru c ln rl ra le) (hY : ps_YC c ln rl kn an tb ks) (h : k < (ps_TL n (ps_G n c ln rl)).length) (h1 : 1 ≤ m) (hz : ps_it (ps_wk (ps_gk n ((ps_TL n (ps_G n c ln rl)).getD k 0)) wn L) m = 0) (hl : ∀ j, 1 ≤ j → j < m → ps_it (ps_wk (ps_gk n ((ps_TL n (ps_G n c ln rl)).getD k 0)) wn L) j ≠ 0) (K : ∀ u', yy_OK L c wn ln rl u' → post (nI m) u') : wpY_period post (nI L, nI c, mn, w, le, ra, fi, se, pm, im, ot, od, pl, kn, an, tb, ks) (nI n) (nI k) := by
  have hT := ps_TL_len (c := c) (ln := ln) (rl := rl) h0 hn
  have hF := (ps_TLFa h0 hn h).1
  unfold wpY_period
  dsimp only
  exact yy_bad_o h0 hn (br_t rfl (yy_noT_o h0 hn hr hc hY h (fun mn' pm' im' kn' an' tb' ks' hY' hk => br_t rfl (yy_spread hn (by omega) (ps_ks (ps_YC_at hY' h0 hn hk).2.2 h) hF.2.2 (fun im2 hI => yy_go (p := 0) hn hI hF.1 hL hw h0 ⟨m - 1 + 1, yy_per37 h0 hn hI hF.1 hL hw hz hl (K _ (yy_mk hL hc hw hr hY')) (m - 1) 1 (by omega) (by omega)⟩)))))
theorem yy_fix19 {post : Int32 → SY → Prop} {n : Nat} {T : List Nat} (h0 : 0 < n) (hn : n ≤ 5) (hL : L ≤ 8) (hw : ps_Wo wn w) (hT : T.length ≤ 461) (htb : tb n = nI T.length) (hF : ∀ k, k < T.length → ps_Fa n (T.getD k 0)) (hA : ∀ k, k < T.length → ks (461 * n + k) = lN (ps_cv (4 * n) (T.getD k 0))) (K : ∀ im', post (nI (ps_cn (fun k => ps_fx wn L n (T.getD k 0)) T.length)) (nI L, nI c, mn, w, le, ra, fi, se, pm, im', ot, od, pl, kn, an, tb, ks)) : ∀ d k im', k + d = T.length → wY_fixing_19 post (nI n) (d + 1) (nI (ps_cn (fun k => ps_fx wn L n (T.getD k 0)) k)) (nI k) (nI L) (nI c) mn w le ra fi se pm im' ot od pl kn an tb ks := by
  have vn : vp_in (nI n) 6 := vp_in_nI (by omega) (by decide)
  have et : tb (nI n).toNatClampNeg = nI T.length := ps_rd rfl (by omega) htb
  intro d
  induction d with
  | zero =>
    intro k im' hk
    obtain rfl : k = T.length := by omega
    exact ⟨vn, br_t (by rw [et]; exact nI_le (by omega) (by omega)) (K im')⟩
  | succ d ih =>
    intro k im' hk
    have hkT : k < T.length := by omega
    have f := hF k hkT
    refine ⟨vn, br_f (by rw [et]; exact nI_ge hkT (by omega)) (yy_spread hn (by omega) (hA k hkT) f.2.2 (fun im2 hI => yy_go (p := 0) hn hI f.1 hL hw h0 ?_))⟩
    have hq := ih (k + 1) im2 (by omega)
    have hlt := ps_wk_lt (r := wn) f.1 L 0 (fun j hj => (hw j).1) h0
    rw [ps_cn] at hq
    by_cases z : ps_wk (ps_gk n (T.getD k 0)) wn L 0 = 0
    · have e : ps_fx wn L n (T.getD k 0) = true := decide_eq_true z
      rw [e] at hq
      exact br_t (by rw [z]; rfl) (nm_r (nI_1 _) (nm_r (nI_1 k) hq))
    · have e : ps_fx wn L n (T.getD k 0) = false := decide_eq_false z
      rw [e] at hq
      exact br_f (nI_ne0 (by omega) (by omega)) (nm_r (nI_1 k) hq)
theorem yy_fixing_b {post : Int32 → SY → Prop} {v : Int32} (h : v < 1 ∨ 5 < v) (k : post (-1) (nI L, nI c, mn, w, le, ra, fi, se, pm, im, ot, od, pl, kn, an, tb, ks)) : wpY_fixing post (nI L, nI c, mn, w, le, ra, fi, se, pm, im, ot, od, pl, kn, an, tb, ks) v := by
  unfold wpY_fixing
  dsimp only
  exact yy_bad_b h (br_f (by decide) k)
theorem yy_fixing_o {post : Int32 → SY → Prop} {n : Nat} (h0 : 0 < n) (hn : n ≤ 5) (hL : L ≤ 8) (hc : c ≤ 4) (hw : ps_Wo wn w) (hr : ps_Ru c ln rl ra le) (hY : ps_YC c ln rl kn an tb ks) (K : ∀ u', yy_OK L c wn ln rl u' → post (nI (ps_cn (fun k => ps_fx wn L n ((ps_TL n (ps_G n c ln rl)).getD k 0)) (ps_TL n (ps_G n c ln rl)).length)) u') : wpY_fixing post (nI L, nI c, mn, w, le, ra, fi, se, pm, im, ot, od, pl, kn, an, tb, ks) (nI n) := by
  unfold wpY_fixing
  dsimp only
  exact yy_bad_o h0 hn (br_t rfl (yy_work h0 hn hr hc hY (fun mn' pm' im' kn' an' tb' ks' hY' hk => ⟨(ps_TL n (ps_G n c ln rl)).length + 1, yy_fix19 h0 hn hL hw (ps_TL_len h0 hn) (ps_YC_at hY' h0 hn hk).2.1 (fun k hk => (ps_TLFa h0 hn hk).1) (fun k hk2 => ps_ks (ps_YC_at hY' h0 hn hk).2.2 hk2) (fun im2 => K _ (yy_mk hL hc hw hr hY')) (ps_TL n (ps_G n c ln rl)).length 0 im' (by omega)⟩)))
theorem yy_st32 {post : Int32 → SY → Prop} {J2 J14 : Int32 → Int32 → Int32 → Int32 → (Nat → Int32) → (Nat → Int32) → (Nat → Int32) → (Nat → Int32) → (Nat → Int32) → (Nat → Int32) → (Nat → Int32) → (Nat → Int32) → (Nat → Int32) → (Nat → Int32) → (Nat → Int32) → (Nat → Int32) → (Nat → Int32) → (Nat → Int64) → Prop} {n k K : Nat} (hn : n ≤ 5) (hI : ps_YI im n (ps_gk n K)) (hg : ps_Gd n (ps_gk n K)) (hL : L ≤ 8) (hw : ps_Wo wn w) (k0 : ps_wa wn L n K = false → post 0 (nI L, nI c, mn, w, le, ra, fi, se, pm, im, ot, od, pl, kn, an, tb, ks)) (k1 : ps_wa wn L n K = true → J14 (nI (k + 1)) (nI L) (nI c) mn w le ra fi se pm im ot od pl kn an tb ks) : ∀ d p, p + d = n → (∀ q, q < p → ps_wk (ps_gk n K) wn L q = q) → wY_still_32 post J2 J14 (nI n) (nI k) (nI L) (nI c) mn w le ra fi se pm im ot od pl kn an tb ks (d + 1) (nI p) := by
  intro d
  induction d with
  | zero =>
    intro p hp h
    obtain rfl : p = n := by omega
    exact br_t (nI_le (by omega) (by omega)) (nm_r (nI_1 k) (k1 (decide_eq_true h)))
  | succ d ih =>
    intro p hp h
    have hlt := ps_wk_lt (r := wn) hg L p (fun j hj => (hw j).1) (by omega)
    refine br_f (nI_ge (by omega) (by omega)) (yy_go hn hI hg hL hw (by omega) ?_)
    by_cases z : ps_wk (ps_gk n K) wn L p = p
    · exact br_t (by rw [z]) (nm_r (nI_1 p) (ih (p + 1) (by omega) (lt_s h z)))
    · exact br_f (fun q => z ((nI_eq (by omega) (by omega)).mp q)) (k0 (decide_eq_false (fun hh => z (hh p (by omega)))))
theorem yy_st14 {post : Int32 → SY → Prop} {J : Int32 → Int32 → Int32 → Int32 → (Nat → Int32) → (Nat → Int32) → (Nat → Int32) → (Nat → Int32) → (Nat → Int32) → (Nat → Int32) → (Nat → Int32) → (Nat → Int32) → (Nat → Int32) → (Nat → Int32) → (Nat → Int32) → (Nat → Int32) → (Nat → Int32) → (Nat → Int64) → Prop} {n : Nat} {T : List Nat} (h0 : 0 < n) (hn : n ≤ 5) (hL : L ≤ 8) (hw : ps_Wo wn w) (hT : T.length ≤ 461) (htb : tb n = nI T.length) (hF : ∀ k, k < T.length → ps_Fa n (T.getD k 0)) (hA : ∀ k, k < T.length → ks (461 * n + k) = lN (ps_cv (4 * n) (T.getD k 0))) (k0 : ∀ im', (∃ k, k < T.length ∧ ps_wa wn L n (T.getD k 0) = false) → post 0 (nI L, nI c, mn, w, le, ra, fi, se, pm, im', ot, od, pl, kn, an, tb, ks)) (k1 : ∀ im', (∀ k, k < T.length → ps_wa wn L n (T.getD k 0) = true) → J (nI (n + 1)) (nI L) (nI c) mn w le ra fi se pm im' ot od pl kn an tb ks) : ∀ d k im', k + d = T.length → (∀ q, q < k → ps_wa wn L n (T.getD q 0) = true) → wY_still_14 post J (nI n) (d + 1) (nI k) (nI L) (nI c) mn w le ra fi se pm im' ot od pl kn an tb ks := by
  have vn : vp_in (nI n) 6 := vp_in_nI (by omega) (by decide)
  have et : tb (nI n).toNatClampNeg = nI T.length := ps_rd rfl (by omega) htb
  intro d
  induction d with
  | zero =>
    intro k im' hk h
    obtain rfl : k = T.length := by omega
    exact ⟨vn, br_t (by rw [et]; exact nI_le (by omega) (by omega)) (nm_r (nI_1 n) (k1 im' h))⟩
  | succ d ih =>
    intro k im' hk h
    have hkT : k < T.length := by omega
    have f := hF k hkT
    exact ⟨vn, br_f (by rw [et]; exact nI_ge hkT (by omega)) (yy_spread hn (by omega) (hA k hkT) f.2.2 (fun im2 hI => ⟨n + 1, yy_st32 hn hI f.1 hL hw (fun e => k0 im2 ⟨k, hkT, e⟩) (fun e => ih (k + 1) im2 (by omega) (lt_s h e)) n 0 (by omega) (fun q hq => by omega)⟩))⟩
theorem yy_st2 {post : Int32 → SY → Prop} (hL : L ≤ 8) (hc : c ≤ 4) (hw : ps_Wo wn w) (hr : ps_Ru c ln rl ra le) (K : ∀ u', yy_OK L c wn ln rl u' → post (ps_b (ps_sb c ln rl wn L)) u') : ∀ d n mn' pm' im' kn' an' tb' ks', n + d = 6 → 0 < n → ps_YC c ln rl kn' an' tb' ks' → (∀ m, m < n → 0 < m → ps_wq wn L m (ps_TL m (ps_G m c ln rl)) = true) → wY_still_2 post (d + 1) (nI n) (nI L) (nI c) mn' w le ra fi se pm' im' ot od pl kn' an' tb' ks' := by
  intro d
  induction d with
  | zero =>
    intro n mn' pm' im' kn' an' tb' ks' hn h0 hY h
    obtain rfl : n = 6 := by omega
    have e : ps_sb c ln rl wn L = true := decide_eq_true h
    rw [e] at K
    exact br_t (nI_lt (a := 5) (b := 6) (by decide) (by decide)) (K _ (yy_mk hL hc hw hr hY))
  | succ d ih =>
    intro n mn' pm' im' kn' an' tb' ks' hn h0 hY h
    refine br_f (nI_nlt (a := 5) (by omega) (by decide)) (yy_work h0 (by omega) hr hc hY (fun mn2 pm2 im2 kn2 an2 tb2 ks2 hY2 hk => ⟨(ps_TL n (ps_G n c ln rl)).length + 1, yy_st14 h0 (by omega) hL hw (ps_TL_len h0 (by omega)) (ps_YC_at hY2 h0 (by omega) hk).2.1 (fun k hk => (ps_TLFa h0 (by omega) hk).1) (fun k hk2 => ps_ks (ps_YC_at hY2 h0 (by omega) hk).2.2 hk2) (fun im3 hx => ?_) (fun im3 hx => ih (n + 1) mn2 pm2 im3 kn2 an2 tb2 ks2 (by omega) (by omega) hY2 (fun m h1 h2 => ?_)) (ps_TL n (ps_G n c ln rl)).length 0 im2 (by omega) (fun q hq => by omega)⟩))
    · obtain ⟨k, hk, hf⟩ := hx
      have e : ps_sb c ln rl wn L = false := decide_eq_false (fun hh => by
        have q := of_decide_eq_true (hh n (by omega) h0) k hk
        rw [hf] at q
        cases q)
      rw [e] at K
      exact K _ (yy_mk hL hc hw hr hY2)
    · by_cases e : m = n
      · subst e
        exact decide_eq_true hx
      · exact h m (by omega) h2
theorem yy_still {post : Int32 → SY → Prop} (hL : L ≤ 8) (hc : c ≤ 4) (hw : ps_Wo wn w) (hr : ps_Ru c ln rl ra le) (hY : ps_YC c ln rl kn an tb ks) (K : ∀ u', yy_OK L c wn ln rl u' → post (ps_b (ps_sb c ln rl wn L)) u') : wpY_still post (nI L, nI c, mn, w, le, ra, fi, se, pm, im, ot, od, pl, kn, an, tb, ks) :=
  ⟨5 + 1, yy_st2 hL hc hw hr K 5 1 mn pm im kn an tb ks (by omega) (by omega) hY (fun m h1 h2 => by omega)⟩
end
