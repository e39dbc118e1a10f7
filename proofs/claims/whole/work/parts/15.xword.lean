/-! the component: the word in a table; period, fixing, still -/
def ps_wq (wn : Nat → Nat) (L n : Nat) (T : List Nat) : Bool := decide (∀ k, k < T.length → ps_wa wn L n (T.getD k 0) = true)
def ps_sN (c : Nat) (ln : Nat → Nat) (rl : Nat → Nat → Nat) (wn : Nat → Nat) (L N : Nat) : Bool := decide (∀ n, n < N → (0 < n → ps_wq wn L n (ps_TL n (ps_G n c ln rl)) = true))
def ps_sb (c : Nat) (ln : Nat → Nat) (rl : Nat → Nat → Nat) (wn : Nat → Nat) (L : Nat) : Bool := ps_sN c ln rl wn L 6
section
variable {L c : Nat} {tc : Int32} {w ra le im nn mp fs ss : Nat → Int32} {tk : Nat → Int64}
variable {wn ln : Nat → Nat} {rl : Nat → Nat → Nat}
theorem xx_wkW7 {post : Int32 → Prop} {n p : Nat} {g : Nat → Nat → Nat} (hn : n ≤ 5) (hI : ps_XI im n g) (hg : ps_Gd n g) (hL : L ≤ 8) (hw : ps_Wo wn w) (hp : p < n) (K : post (nI (ps_wk g wn L p))) : ∀ d i, i + d = L → wX_walk__wordLetters_7 post (nI 0) (nI L) (nI L) (nI c) tc w ra le im tk nn mp fs ss (d + 1) (nI (ps_wk g wn i p)) (nI i) := by
  intro d
  induction d with
  | zero =>
    intro i hi
    obtain rfl : i = L := by omega
    exact br_t (nI_le (by omega) (by omega)) K
  | succ d ih =>
    intro i hi
    have h4 := (hw i).1
    have hat := ps_wk_lt (r := wn) hg i p (fun j hj => (hw j).1) hp
    have e0 : nI 0 + nI i = nI i := by rw [nI_add, Nat.zero_add]
    have er : w (nI 0 + nI i).toNatClampNeg = nI (wn i) := ps_rd e0 (by omega) (hw i).2
    have ex : nI (ps_wk g wn i p) * 4 + w (nI 0 + nI i).toNatClampNeg = nI (4 * ps_wk g wn i p + wn i) := by rw [er]; exact ps_ix4 _ _
    exact br_f (nI_ge (by omega) (by omega)) ⟨pk_in i 8 (by omega) e0, ⟨pk_in (4 * ps_wk g wn i p + wn i) 20 (by omega) ex, nm_r (e' := nI (ps_wk g wn (i + 1) p)) (ps_rd ex (by omega) (hI _ h4 _ hat)) (nm_r (nI_1 i) (ih (i + 1) (by omega)))⟩⟩
theorem xx_wimg {post : Int32 → Prop} {n p : Nat} {g : Nat → Nat → Nat} (hn : n ≤ 5) (hI : ps_XI im n g) (hg : ps_Gd n g) (hL : L ≤ 8) (hw : ps_Wo wn w) (hp : p < n) (K : post (nI (ps_wk g wn L p))) : wpX_wordImage post (nI L, nI c, tc, w, ra, le, im, tk, nn, mp, fs, ss) (nI p) := by
  unfold wpX_wordImage
  dsimp only
  exact ⟨L + 1, xx_wkW7 hn hI hg hL hw hp K L 0 (by omega)⟩
theorem xx_per41 {post : Int32 → SX → Prop} {n m : Nat} {g : Nat → Nat → Nat} (h0 : 0 < n) (hn : n ≤ 5) (hI : ps_XI im n g) (hg : ps_Gd n g) (hL : L ≤ 8) (hw : ps_Wo wn w) (hm : m ≤ n) (hz : ps_it (ps_wk g wn L) m = 0) (hl : ∀ j, 1 ≤ j → j < m → ps_it (ps_wk g wn L) j ≠ 0) (K : post (nI m) (nI L, nI c, tc, w, ra, le, im, tk, nn, mp, fs, ss)) : ∀ d t, t + d = m → 1 ≤ t → wX_period_41 post (nI n) (nI L) (nI c) tc w ra le im tk nn mp fs ss (d + 1) (nI t) (nI (ps_it (ps_wk g wn L) t)) := by
  intro d
  induction d with
  | zero =>
    intro t ht h1
    obtain rfl : t = m := by omega
    exact br_t (by rw [hz]; rfl) K
  | succ d ih =>
    intro t ht h1
    have hlt : ps_it (ps_wk g wn L) t < n := ps_it_lt h0 (fun p hp => ps_wk_lt hg L p (fun j hj => (hw j).1) hp) t
    have hne := hl t h1 (by omega)
    exact br_f (nI_ne0 (by omega) (by omega)) (br_f (nI_ge (by omega) (by omega)) (xx_wimg hn hI hg hL hw hlt (nm_r (nI_1 t) (ih (t + 1) (by omega) (by omega)))))
theorem xx_period_b {post : Int32 → SX → Prop} {v v2 : Int32} (h : v < 1 ∨ 5 < v) (k : post (-1) (nI L, nI c, tc, w, ra, le, im, tk, nn, mp, fs, ss)) : wpX_period post (nI L, nI c, tc, w, ra, le, im, tk, nn, mp, fs, ss) v v2 := by
  unfold wpX_period
  dsimp only
  exact xx_isP_b h (br_t rfl k)
theorem xx_period_n {post : Int32 → SX → Prop} {n : Nat} {v2 : Int32} (h0 : 0 < n) (hn : n ≤ 5) (hL : L ≤ 8) (hc : c ≤ 4) (hw : ps_Wo wn w) (hr : ps_Ru c ln rl ra le) (h : v2 < 0 ∨ nI (ps_TL n (ps_G n c ln rl)).length ≤ v2) (K : ∀ u', xx_OK L c wn ln rl u' → post (-4) u') : wpX_period post (nI L, nI c, tc, w, ra, le, im, tk, nn, mp, fs, ss) (nI n) v2 := by
  unfold wpX_period
  dsimp only
  exact xx_isP_o h0 hn (br_f (by decide) (xx_find h0 hn hr hc (fun a' tk' _ => xx_isTN_b h (br_t rfl (K _ (xx_mk hL hc hw hr))))))
theorem xx_period_o {post : Int32 → SX → Prop} {n k m : Nat} (h0 : 0 < n) (hn : n ≤ 5) (hL : L ≤ 8) (hc : c ≤ 4) (hw : ps_Wo wn w) (hr : ps_Ru c ln rl ra le) (h : k < (ps_TL n (ps_G n c ln rl)).length) (h1 : 1 ≤ m) (hm : m ≤ n) (hz : ps_it (ps_wk (ps_gk n ((ps_TL n (ps_G n c ln rl)).getD k 0)) wn L) m = 0) (hl : ∀ j, 1 ≤ j → j < m → ps_it (ps_wk (ps_gk n ((ps_TL n (ps_G n c ln rl)).getD k 0)) wn L) j ≠ 0) (K : ∀ u', xx_OK L c wn ln rl u' → post (nI m) u') : wpX_period post (nI L, nI c, tc, w, ra, le, im, tk, nn, mp, fs, ss) (nI n) (nI k) := by
  have hT := ps_TL_len (c := c) (ln := ln) (rl := rl) h0 hn
  have hF := (ps_TLFa h0 hn h).1
  unfold wpX_period
  dsimp only
  refine xx_isP_o h0 hn (br_f (by decide) (xx_find h0 hn hr hc (fun a' tk' hA => xx_isTN_o h hT (br_f (by decide) (xx_load hn (by omega) ?_ (ps_K8 hn hF.2.2) (fun a2 hI => xx_wimg (p := 0) hn hI hF.1 hL hw h0 ⟨m - 1 + 1, xx_per41 h0 hn hI hF.1 hL hw hm hz hl (K _ (xx_mk hL hc hw hr)) (m - 1) 1 (by omega) (by omega)⟩))))))
  have q := hA k h
  rw [Nat.zero_add] at q
  exact q
theorem xx_fix19 {post : Int32 → SX → Prop} {n : Nat} {T : List Nat} (h0 : 0 < n) (hn : n ≤ 5) (hL : L ≤ 8) (hw : ps_Wo wn w) (hT : T.length ≤ 461) (hF : ∀ k, k < T.length → ps_Fa n (T.getD k 0)) (hA : ps_Ar tk 0 T) (K : ∀ a', post (nI (ps_cn (fun k => ps_fx wn L n (T.getD k 0)) T.length)) (nI L, nI c, nI T.length, w, ra, le, a', tk, nn, mp, fs, ss)) : ∀ d k a', k + d = T.length → wX_fixing_19 post (nI n) (d + 1) (nI (ps_cn (fun k => ps_fx wn L n (T.getD k 0)) k)) (nI k) (nI L) (nI c) (nI T.length) w ra le a' tk nn mp fs ss := by
  intro d
  induction d with
  | zero =>
    intro k a' hk
    obtain rfl : k = T.length := by omega
    exact br_t (nI_le (by omega) (by omega)) (K a')
  | succ d ih =>
    intro k a' hk
    have hkT : k < T.length := by omega
    have f := hF k hkT
    have et : tk k = lN (T.getD k 0) := by
      have q := hA k hkT
      rw [Nat.zero_add] at q
      exact q
    refine br_f (nI_ge hkT (by omega)) (xx_load hn (by omega) et (ps_K8 hn f.2.2) (fun a2 hI => xx_wimg (p := 0) hn hI f.1 hL hw h0 ?_))
    have hq := ih (k + 1) a2 (by omega)
    have hlt := ps_wk_lt (r := wn) f.1 L 0 (fun j hj => (hw j).1) h0
    rw [ps_cn] at hq
    by_cases z : ps_wk (ps_gk n (T.getD k 0)) wn L 0 = 0
    · have e : ps_fx wn L n (T.getD k 0) = true := decide_eq_true z
      rw [e] at hq
      exact br_t (by rw [z]; rfl) (nm_r (nI_1 _) (nm_r (nI_1 k) hq))
    · have e : ps_fx wn L n (T.getD k 0) = false := decide_eq_false z
      rw [e] at hq
      exact br_f (nI_ne0 (by omega) (by omega)) (nm_r (nI_1 k) hq)
theorem xx_fixing_b {post : Int32 → SX → Prop} {v : Int32} (h : v < 1 ∨ 5 < v) (k : post (-1) (nI L, nI c, tc, w, ra, le, im, tk, nn, mp, fs, ss)) : wpX_fixing post (nI L, nI c, tc, w, ra, le, im, tk, nn, mp, fs, ss) v := by
  unfold wpX_fixing
  dsimp only
  exact xx_isP_b h (br_t rfl k)
theorem xx_fixing_o {post : Int32 → SX → Prop} {n : Nat} (h0 : 0 < n) (hn : n ≤ 5) (hL : L ≤ 8) (hc : c ≤ 4) (hw : ps_Wo wn w) (hr : ps_Ru c ln rl ra le) (K : ∀ u', xx_OK L c wn ln rl u' → post (nI (ps_cn (fun k => ps_fx wn L n ((ps_TL n (ps_G n c ln rl)).getD k 0)) (ps_TL n (ps_G n c ln rl)).length)) u') : wpX_fixing post (nI L, nI c, tc, w, ra, le, im, tk, nn, mp, fs, ss) (nI n) := by
  unfold wpX_fixing
  dsimp only
  exact xx_isP_o h0 hn (br_f (by decide) (xx_find h0 hn hr hc (fun a' tk' hA => ⟨(ps_TL n (ps_G n c ln rl)).length + 1, xx_fix19 h0 hn hL hw (ps_TL_len h0 hn) (fun k hk => (ps_TLFa h0 hn hk).1) hA (fun a2 => K _ (xx_mk hL hc hw hr)) (ps_TL n (ps_G n c ln rl)).length 0 a' (by omega)⟩)))
theorem xx_wfa2 {post : Int32 → Prop} {n K : Nat} (hn : n ≤ 5) (hI : ps_XI im n (ps_gk n K)) (hg : ps_Gd n (ps_gk n K)) (hL : L ≤ 8) (hw : ps_Wo wn w) (KK : post (ps_b (ps_wa wn L n K))) : ∀ d p, p + d = n → (∀ q, q < p → ps_wk (ps_gk n K) wn L q = q) → wX_wordFixesAll_2 post (nI n) (nI L) (nI c) tc w ra le im tk nn mp fs ss (d + 1) (nI p) := by
  intro d
  induction d with
  | zero =>
    intro p hp h
    obtain rfl : p = n := by omega
    have e : ps_wa wn L p K = true := decide_eq_true h
    rw [e] at KK
    exact br_t (nI_le (by omega) (by omega)) KK
  | succ d ih =>
    intro p hp h
    have hlt := ps_wk_lt (r := wn) hg L p (fun j hj => (hw j).1) (by omega)
    refine br_f (nI_ge (by omega) (by omega)) (xx_wimg hn hI hg hL hw (by omega) ?_)
    by_cases z : ps_wk (ps_gk n K) wn L p = p
    · exact br_t (by rw [z]) (nm_r (nI_1 p) (ih (p + 1) (by omega) (lt_s h z)))
    · have e : ps_wa wn L n K = false := decide_eq_false (fun hh => z (hh p (by omega)))
      rw [e] at KK
      exact br_f (fun q => z ((nI_eq (by omega) (by omega)).mp q)) KK
theorem xx_still14 {post : Int32 → SX → Prop} {J : Int32 → Int32 → Int32 → Int32 → (Nat → Int32) → (Nat → Int32) → (Nat → Int32) → (Nat → Int32) → (Nat → Int64) → (Nat → Int32) → (Nat → Int32) → (Nat → Int32) → (Nat → Int32) → Prop} {n : Nat} {T : List Nat} (h0 : 0 < n) (hn : n ≤ 5) (hL : L ≤ 8) (hw : ps_Wo wn w) (hT : T.length ≤ 461) (hF : ∀ k, k < T.length → ps_Fa n (T.getD k 0)) (hA : ps_Ar tk 0 T) (k0 : ∀ a', (∃ k, k < T.length ∧ ps_wa wn L n (T.getD k 0) = false) → post 0 (nI L, nI c, nI T.length, w, ra, le, a', tk, nn, mp, fs, ss)) (k1 : ∀ a', (∀ k, k < T.length → ps_wa wn L n (T.getD k 0) = true) → J (nI (n + 1)) (nI L) (nI c) (nI T.length) w ra le a' tk nn mp fs ss) : ∀ d k a', k + d = T.length → (∀ q, q < k → ps_wa wn L n (T.getD q 0) = true) → wX_still_14 post J (nI n) (d + 1) (nI k) (nI L) (nI c) (nI T.length) w ra le a' tk nn mp fs ss := by
  intro d
  induction d with
  | zero =>
    intro k a' hk h
    obtain rfl : k = T.length := by omega
    exact br_t (nI_le (by omega) (by omega)) (nm_r (nI_1 n) (k1 a' h))
  | succ d ih =>
    intro k a' hk h
    have hkT : k < T.length := by omega
    have f := hF k hkT
    have et : tk k = lN (T.getD k 0) := by
      have q := hA k hkT
      rw [Nat.zero_add] at q
      exact q
    refine br_f (nI_ge hkT (by omega)) (xx_load hn (by omega) et (ps_K8 hn f.2.2) (fun a2 hI => ⟨n + 1, xx_wfa2 hn hI f.1 hL hw ?_ n 0 (by omega) (fun q hq => by omega)⟩))
    cases e : ps_wa wn L n (T.getD k 0) with
    | false => exact br_t rfl (k0 a2 ⟨k, hkT, e⟩)
    | true => exact br_f (by decide) (nm_r (nI_1 k) (ih (k + 1) a2 (by omega) (lt_s h e)))
theorem xx_still2 {post : Int32 → SX → Prop} (hL : L ≤ 8) (hc : c ≤ 4) (hw : ps_Wo wn w) (hr : ps_Ru c ln rl ra le) (K : ∀ u', xx_OK L c wn ln rl u' → post (ps_b (ps_sb c ln rl wn L)) u') : ∀ d n tc' a' tk', n + d = 6 → 0 < n → (∀ m, m < n → 0 < m → ps_wq wn L m (ps_TL m (ps_G m c ln rl)) = true) → wX_still_2 post (d + 1) (nI n) (nI L) (nI c) tc' w ra le a' tk' nn mp fs ss := by
  intro d
  induction d with
  | zero =>
    intro n tc' a' tk' hn h0 h
    obtain rfl : n = 6 := by omega
    have e : ps_sb c ln rl wn L = true := decide_eq_true h
    rw [e] at K
    exact br_t (nI_lt (a := 5) (b := 6) (by decide) (by decide)) (K _ (xx_mk hL hc hw hr))
  | succ d ih =>
    intro n tc' a' tk' hn h0 h
    refine br_f (nI_nlt (a := 5) (by omega) (by decide)) (xx_find h0 (by omega) hr hc (fun a2 tk2 hA => ⟨(ps_TL n (ps_G n c ln rl)).length + 1, xx_still14 h0 (by omega) hL hw (ps_TL_len h0 (by omega)) (fun k hk => (ps_TLFa h0 (by omega) hk).1) hA (fun a3 hx => ?_) (fun a3 hx => ih (n + 1) _ a3 tk2 (by omega) (by omega) (fun m h1 h2 => ?_)) (ps_TL n (ps_G n c ln rl)).length 0 a2 (by omega) (fun q hq => by omega)⟩))
    · obtain ⟨k, hk, hf⟩ := hx
      have e : ps_sb c ln rl wn L = false := decide_eq_false (fun hh => by
        have q := of_decide_eq_true (hh n (by omega) h0) k hk
        rw [hf] at q
        cases q)
      rw [e] at K
      exact K _ (xx_mk hL hc hw hr)
    · by_cases e : m = n
      · subst e
        exact decide_eq_true hx
      · exact h m (by omega) h2
theorem xx_still {post : Int32 → SX → Prop} (hL : L ≤ 8) (hc : c ≤ 4) (hw : ps_Wo wn w) (hr : ps_Ru c ln rl ra le) (K : ∀ u', xx_OK L c wn ln rl u' → post (ps_b (ps_sb c ln rl wn L)) u') : wpX_still post (nI L, nI c, tc, w, ra, le, im, tk, nn, mp, fs, ss) :=
  ⟨5 + 1, xx_still2 hL hc hw hr K 5 1 tc im tk (by omega) (by omega) (fun m h1 h2 => by omega)⟩
end
