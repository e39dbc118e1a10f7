/-! the component: numbering anew; even, kinds -/
def xx_nv (e : Nat) : Int32 := if e = 9 then -4 else nI e
theorem xx_nv9 : xx_nv 9 = -4 := rfl
theorem xx_nvn {e : Nat} (h : e ≠ 9) : xx_nv e = nI e := if_neg h
theorem xx_nvne {e : Nat} (h : e ≠ 9) (he : e < 9) : ¬ xx_nv e = -4 := by
  rw [xx_nvn h]
  have : ∀ e, e < 9 → ¬ nI e = -4 := by decide
  exact this e he
def xx_Rn (n : Nat) (f : Nat → Nat) (a : Nat → Int32) : Prop := ∀ q, q < n → a q = xx_nv (f q)
def ps_Rm (met : Nat) (m : Nat → Nat) (a : Nat → Int32) : Prop := ∀ i, i < met → a i = nI (m i)
theorem xx_Rn_up {n : Nat} {f : Nat → Nat} {a : Nat → Int32} (h : xx_Rn n f a) (q met : Nat) (hm : met ≠ 9) : xx_Rn n (ps_up f q met) (upd a q (nI met)) := by
  intro x hx
  show (if x = q then nI met else a x) = xx_nv (if x = q then met else f x)
  by_cases e : x = q
  · rw [if_pos e, if_pos e, xx_nvn hm]
  · rw [if_neg e, if_neg e]
    exact h x hx
theorem ps_Rm_up {met : Nat} {m : Nat → Nat} {a : Nat → Int32} (h : ps_Rm met m a) (q : Nat) : ps_Rm (met + 1) (ps_up m met q) (upd a met (nI q)) := by
  intro x hx
  show (if x = met then nI q else a x) = nI (if x = met then q else m x)
  by_cases e : x = met
  · rw [if_pos e, if_pos e]
  · rw [if_neg e, if_neg e]
    exact h x (by omega)
section
variable {L c : Nat} {tc : Int32} {w ra le im nn mp fs ss : Nat → Int32} {tk : Nat → Int64}
theorem xx_kf52 {post : Int64 → SX → Prop} {J : Int32 → Int64 → Int32 → (Nat → Int32) → (Nat → Int32) → (Nat → Int32) → (Nat → Int32) → (Nat → Int64) → (Nat → Int32) → (Nat → Int32) → (Nat → Int32) → (Nat → Int32) → Prop} {n i q0 R : Nat} {g : Nat → Nat → Nat} {k : Nat → (Nat → Nat) → (Nat → Nat) → Nat → Option Nat} (hn : n ≤ 5) (hi : i < n) (hq0 : q0 < n) (hI : ps_XI im n g) (KJ : ∀ met' f' m' key' nn' mp', met' ≤ n → xx_Rn n f' nn' → ps_Rm met' m' mp' → k met' f' m' key' = some R → J (nI met') (lN key') (nI (i + 1)) w ra le im tk nn' mp' fs ss) : ∀ d l met f m key nn' mp', l + d = 4 → i < met → met ≤ n → m i = q0 → xx_Rn n f nn' → ps_Rm met m mp' → ps_nL n g q0 k d l met f m key = some R → wX_keyFrom_52 post J (nI n) (nI i) (nI L) (nI c) tc (d + 1) (nI met) (lN key) (nI l) w ra le im tk nn' mp' fs ss := by
  intro d
  induction d with
  | zero =>
    intro l met f m key nn' mp' hl him hm hmi h1 h2 hR
    obtain rfl : l = 4 := by omega
    exact br_t (nI_le (a := 4) (b := 4) (by decide) (by decide)) (nm_r (nI_1 i) (KJ met f m key nn' mp' hm h1 h2 hR))
  | succ d ih =>
    intro l met f m key nn' mp' hl him hm hmi h1 h2 hR
    rw [ps_nL, ps_fc_eq] at hR
    by_cases hq : g l q0 < n
    · rw [if_pos hq, ps_fc_eq] at hR
      have eo : mp' (nI i).toNatClampNeg = nI q0 := ps_rd rfl (by omega) (by rw [h2 i him, hmi])
      have ex : mp' (nI i).toNatClampNeg * 4 + nI l = nI (4 * q0 + l) := by rw [eo]; exact ps_ix4 _ _
      have v8 : vp_in (nI (g l q0)) 5 := vp_in_nI (by omega) (by decide)
      have ea : nn' (nI (g l q0)).toNatClampNeg = xx_nv (f (g l q0)) := ps_rd rfl (by omega) (h1 _ hq)
      refine br_f (nI_ge (b := 4) (by omega) (by decide)) ⟨vp_in_nI (by omega) (by decide), ⟨pk_in (4 * q0 + l) 20 (by omega) ex, nm_r (e' := nI (g l q0)) (ps_rd ex (by omega) (hI l (by omega) q0 hq0)) ⟨v8, ?_⟩⟩⟩
      by_cases h9 : f (g l q0) = 9
      · rw [if_pos h9] at hR
        by_cases hmn : met < n
        · rw [if_pos hmn] at hR
          have hne : met ≠ 9 := by omega
          have hb := ih (l + 1) (met + 1) _ _ _ _ _ (by omega) (by omega) (by omega) (show ps_up m met (g l q0) i = q0 by rw [ps_up, if_neg (by omega)]; exact hmi) (xx_Rn_up h1 (g l q0) met hne) (ps_Rm_up h2 (g l q0)) hR
          refine br_t (by rw [ea, h9]; rfl) ⟨v8, nm_r (e' := upd nn' (g l q0) (nI met)) (ps_wr rfl (by omega) rfl) ⟨vp_in_nI (by omega) (by decide), nm_r (e' := upd mp' met (nI (g l q0))) (ps_wr rfl (by omega) rfl) (nm_r (nI_1 met) ⟨v8, nm_r (e' := lN (8 * key + met)) ?_ (nm_r (nI_1 l) hb)⟩)⟩⟩
          rw [ps_rd rfl (by omega) pk_us, ps_shl3 _ (by omega)]
        · rw [if_neg hmn] at hR
          cases hR
      · rw [if_neg h9] at hR
        by_cases he : f (g l q0) < n
        · rw [if_pos he] at hR
          have hb := ih (l + 1) met f m _ nn' mp' (by omega) him hm hmi h1 h2 hR
          refine br_f (by rw [ea]; exact xx_nvne h9 (by omega)) ⟨v8, nm_r (e' := lN (8 * key + f (g l q0))) ?_ (nm_r (nI_1 l) hb)⟩
          rw [ea, xx_nvn h9, ps_shl3 _ (by omega)]
        · rw [if_neg he] at hR
          cases hR
    · rw [if_neg hq] at hR
      cases hR
theorem xx_kf43 {post : Int64 → SX → Prop} {n R : Nat} {g : Nat → Nat → Nat} (hn : n ≤ 5) (hI : ps_XI im n g) (KK : ∀ nn' mp', post (lN R) (nI L, nI c, tc, w, ra, le, im, tk, nn', mp', fs, ss)) : ∀ d i met f m key nn' mp', i + d = n → met ≤ n → xx_Rn n f nn' → ps_Rm met m mp' → ps_nR n g d i met f m key = some R → wX_keyFrom_43 post (nI n) (nI L) (nI c) tc (d + 1) (nI met) (lN key) (nI i) w ra le im tk nn' mp' fs ss := by
  intro d
  induction d with
  | zero =>
    intro i met f m key nn' mp' hi hm h1 h2 hR
    obtain rfl : i = n := by omega
    have e : key = R := Option.some.inj hR
    subst e
    exact br_t (nI_le (by omega) (by omega)) (KK nn' mp')
  | succ d ih =>
    intro i met f m key nn' mp' hi hm h1 h2 hR
    rw [ps_nR] at hR
    by_cases z : i < met
    · rw [if_pos z] at hR
      by_cases z2 : m i < n
      · rw [if_pos z2] at hR
        exact br_f (nI_ge (by omega) (by omega)) ⟨5, xx_kf52 hn (by omega) z2 hI (fun met' f' m' key' nn2 mp2 q1 q2 q3 q4 => ih (i + 1) met' f' m' key' nn2 mp2 (by omega) q1 q2 q3 q4) 4 0 met f m key nn' mp' rfl z hm rfl h1 h2 hR⟩
      · rw [if_neg z2] at hR
        cases hR
    · rw [if_neg z] at hR
      cases hR
theorem xx_kf2 {post : Int64 → SX → Prop} {n s R : Nat} {g : Nat → Nat → Nat} (hn : n ≤ 5) (hs : s < n) (hI : ps_XI im n g) (hR : ps_rn n g s = some R) (KK : ∀ nn' mp', post (lN R) (nI L, nI c, tc, w, ra, le, im, tk, nn', mp', fs, ss)) : ∀ d i nn', i + d = n → (∀ q, q < i → nn' q = -4) → wX_keyFrom_2 post (nI n) (nI s) (nI L) (nI c) tc (d + 1) (nI i) w ra le im tk nn' mp fs ss := by
  intro d
  induction d with
  | zero =>
    intro i nn' hi h
    obtain rfl : i = n := by omega
    refine br_t (nI_le (by omega) (by omega)) ⟨vp_in_nI (by omega) (by decide), nm_r (e' := upd nn' s (nI 0)) (ps_wr rfl (by omega) rfl) (nm_e ⟨i + 1, xx_kf43 hn hI KK i 0 1 _ _ 0 _ _ (by omega) (by omega) (xx_Rn_up (f := fun _ => 9) (fun q hq => ?_) s 0 (by decide)) (fun j hj => ?_) hR⟩)⟩
    · exact h q hq
    · obtain rfl : j = 0 := by omega
      exact pk_us
  | succ d ih =>
    intro i nn' hi h
    refine br_f (nI_ge (by omega) (by omega)) ⟨vp_in_nI (by omega) (by decide), nm_r (e' := upd nn' i (-4)) (ps_wr rfl (by omega) rfl) (nm_r (nI_1 i) (ih (i + 1) _ (by omega) (fun q hq => ?_)))⟩
    by_cases e : q = i
    · subst e
      exact pk_us
    · rw [pk_un e]
      exact h q (by omega)
theorem xx_kfrom {post : Int64 → SX → Prop} {n s R : Nat} {g : Nat → Nat → Nat} (hn : n ≤ 5) (hs : s < n) (hI : ps_XI im n g) (hR : ps_rn n g s = some R) (KK : ∀ nn' mp', post (lN R) (nI L, nI c, tc, w, ra, le, im, tk, nn', mp', fs, ss)) : wpX_keyFrom post (nI L, nI c, tc, w, ra, le, im, tk, nn, mp, fs, ss) (nI n) (nI s) :=
  ⟨n + 1, xx_kf2 hn hs hI hR KK n 0 nn (by omega) (fun q hq => by omega)⟩
theorem xx_al3 {post : Int32 → SX → Prop} {n K : Nat} (hn : n ≤ 5) (hK : ps_D5 (4 * n) K) (hI : ps_XI im n (ps_gk n K)) (hs : ∀ s, s < n → ∃ R, ps_rn n (ps_gk n K) s = some R ∧ ps_D5 (4 * n) R) (KK : ∀ nn' mp', post (ps_b (ps_al n K)) (nI L, nI c, tc, w, ra, le, im, tk, nn', mp', fs, ss)) : ∀ d s nn' mp', s + d = n → 0 < s → (∀ q, q < s → 0 < q → ps_rn n (ps_gk n K) q = some K) → wX_isAlikeToItselfOnly_3 post (nI n) (lN K) (d + 1) (nI s) (nI L) (nI c) tc w ra le im tk nn' mp' fs ss := by
  intro d
  induction d with
  | zero =>
    intro s nn' mp' hd h0 h
    obtain rfl : s = n := by omega
    have e : ps_al s K = true := decide_eq_true h
    have k := KK nn' mp'
    rw [e] at k
    exact br_t (nI_le (by omega) (by omega)) k
  | succ d ih =>
    intro s nn' mp' hd h0 h
    obtain ⟨R, hR, hD⟩ := hs s (by omega)
    refine br_f (nI_ge (by omega) (by omega)) (xx_kfrom hn (by omega) hI hR (fun nn2 mp2 => ?_))
    have b1 : R < 2 ^ 63 := Nat.lt_trans (ps_K8 hn hD) (by decide)
    have b2 : K < 2 ^ 63 := Nat.lt_trans (ps_K8 hn hK) (by decide)
    by_cases z : R = K
    · subst z
      refine br_t rfl (nm_r (nI_1 s) (ih (s + 1) nn2 mp2 (by omega) (by omega) (fun q h1 h2 => ?_)))
      by_cases e : q = s
      · rw [e]
        exact hR
      · exact h q (by omega) h2
    · have e : ps_al n K = false := decide_eq_false (fun hh => z (Option.some.inj (hR.symm.trans (hh s (by omega) h0))))
      have k := KK nn2 mp2
      rw [e] at k
      exact br_f (fun q => z ((pk_lEQ b1 b2).mp q)) k
theorem xx_alike {post : Int32 → SX → Prop} {n K : Nat} {e : Int64} (he : e = lN K) (h0 : 0 < n) (hn : n ≤ 5) (hK : ps_D5 (4 * n) K) (hI : ps_XI im n (ps_gk n K)) (hs : ∀ s, s < n → ∃ R, ps_rn n (ps_gk n K) s = some R ∧ ps_D5 (4 * n) R) (KK : ∀ nn' mp', post (ps_b (ps_al n K)) (nI L, nI c, tc, w, ra, le, im, tk, nn', mp', fs, ss)) : wpX_isAlikeToItselfOnly post (nI L, nI c, tc, w, ra, le, im, tk, nn, mp, fs, ss) (nI n) e := by
  subst he
  exact ⟨n - 1 + 1, xx_al3 hn hK hI hs KK (n - 1) 1 nn mp (by omega) (by omega) (fun q h1 h2 => by omega)⟩
theorem xx_fi3 {post : Int32 → SX → Prop} {n K : Nat} (hn : n ≤ 5) (hK : ps_D5 (4 * n) K) (hI : ps_XI im n (ps_gk n K)) (hs : ∀ s, s < n → ∃ R, ps_rn n (ps_gk n K) s = some R ∧ ps_D5 (4 * n) R) (KK : ∀ nn' mp', post (ps_b (ps_fi n K)) (nI L, nI c, tc, w, ra, le, im, tk, nn', mp', fs, ss)) : ∀ d s nn' mp', s + d = n → 0 < s → (∀ q, q < s → 0 < q → ps_ltO n K q = false) → wX_isFirstOfItsKind_3 post (nI n) (lN K) (d + 1) (nI s) (nI L) (nI c) tc w ra le im tk nn' mp' fs ss := by
  intro d
  induction d with
  | zero =>
    intro s nn' mp' hd h0 h
    obtain rfl : s = n := by omega
    have e : ps_fi s K = true := decide_eq_true h
    have k := KK nn' mp'
    rw [e] at k
    exact br_t (nI_le (by omega) (by omega)) k
  | succ d ih =>
    intro s nn' mp' hd h0 h
    obtain ⟨R, hR, hD⟩ := hs s (by omega)
    refine br_f (nI_ge (by omega) (by omega)) (xx_kfrom hn (by omega) hI hR (fun nn2 mp2 => ?_))
    have b1 : R < 2 ^ 63 := Nat.lt_trans (ps_K8 hn hD) (by decide)
    have b2 : K < 2 ^ 63 := Nat.lt_trans (ps_K8 hn hK) (by decide)
    have el : ps_ltO n K s = decide (R < K) := by rw [ps_ltO, hR]
    by_cases z : K ≤ R
    · refine br_t ((pk_lLE b2 b1).mpr z) (nm_r (nI_1 s) (ih (s + 1) nn2 mp2 (by omega) (by omega) (fun q h1 h2 => ?_)))
      by_cases e : q = s
      · rw [e, el]
        exact decide_eq_false (by omega)
      · exact h q (by omega) h2
    · have e : ps_fi n K = false := decide_eq_false (fun hh => by
        have q := hh s (by omega) h0
        rw [el] at q
        exact absurd (of_decide_eq_false q) (by omega))
      have k := KK nn2 mp2
      rw [e] at k
      exact br_f (fun q => z ((pk_lLE b2 b1).mp q)) k
theorem xx_first {post : Int32 → SX → Prop} {n K : Nat} {e : Int64} (he : e = lN K) (h0 : 0 < n) (hn : n ≤ 5) (hK : ps_D5 (4 * n) K) (hI : ps_XI im n (ps_gk n K)) (hs : ∀ s, s < n → ∃ R, ps_rn n (ps_gk n K) s = some R ∧ ps_D5 (4 * n) R) (KK : ∀ nn' mp', post (ps_b (ps_fi n K)) (nI L, nI c, tc, w, ra, le, im, tk, nn', mp', fs, ss)) : wpX_isFirstOfItsKind post (nI L, nI c, tc, w, ra, le, im, tk, nn, mp, fs, ss) (nI n) e := by
  subst he
  exact ⟨n - 1 + 1, xx_fi3 hn hK hI hs KK (n - 1) 1 nn mp (by omega) (by omega) (fun q h1 h2 => by omega)⟩
end
section
variable {L c : Nat} {tc : Int32} {w ra le im nn mp fs ss : Nat → Int32} {tk : Nat → Int64}
variable {wn ln : Nat → Nat} {rl : Nat → Nat → Nat}
theorem xx_even19 {post : Int32 → SX → Prop} {n : Nat} {T : List Nat} (h0 : 0 < n) (hn : n ≤ 5) (hT : T.length ≤ 461) (hF : ∀ k, k < T.length → ps_Fa n (T.getD k 0) ∧ ∀ s, s < n → ∃ R, ps_rn n (ps_gk n (T.getD k 0)) s = some R ∧ ps_D5 (4 * n) R) (hA : ps_Ar tk 0 T) (K : ∀ a' nn' mp', post (nI (ps_cn (fun k => ps_al n (T.getD k 0)) T.length)) (nI L, nI c, nI T.length, w, ra, le, a', tk, nn', mp', fs, ss)) : ∀ d k a' nn' mp', k + d = T.length → wX_even_19 post (nI n) (d + 1) (nI (ps_cn (fun k => ps_al n (T.getD k 0)) k)) (nI k) (nI L) (nI c) (nI T.length) w ra le a' tk nn' mp' fs ss := by
  intro d
  induction d with
  | zero =>
    intro k a' nn' mp' hk
    obtain rfl : k = T.length := by omega
    exact br_t (nI_le (by omega) (by omega)) (K a' nn' mp')
  | succ d ih =>
    intro k a' nn' mp' hk
    have hkT : k < T.length := by omega
    have f := hF k hkT
    have et : tk k = lN (T.getD k 0) := by
      have q := hA k hkT
      rw [Nat.zero_add] at q
      exact q
    refine br_f (nI_ge hkT (by omega)) (xx_load hn (by omega) et (ps_K8 hn f.1.2.2) (fun a2 hI => ⟨vp_in_nI (by omega) (by decide), xx_alike (ps_rdL rfl (by omega) et) h0 hn f.1.2.2 hI f.2 (fun nn2 mp2 => ?_)⟩))
    have hq := ih (k + 1) a2 nn2 mp2 (by omega)
    rw [ps_cn] at hq
    cases e : ps_al n (T.getD k 0) with
    | false =>
      rw [e] at hq
      exact br_t rfl (nm_r (nI_1 k) hq)
    | true =>
      rw [e] at hq
      exact br_f (by decide) (nm_r (nI_1 _) (nm_r (nI_1 k) hq))
theorem xx_even_b {post : Int32 → SX → Prop} {v : Int32} (h : v < 1 ∨ 5 < v) (k : post (-1) (nI L, nI c, tc, w, ra, le, im, tk, nn, mp, fs, ss)) : wpX_even post (nI L, nI c, tc, w, ra, le, im, tk, nn, mp, fs, ss) v := by
  unfold wpX_even
  dsimp only
  exact xx_isP_b h (br_t rfl k)
theorem xx_even_o {post : Int32 → SX → Prop} {n : Nat} (h0 : 0 < n) (hn : n ≤ 5) (hL : L ≤ 8) (hc : c ≤ 4) (hw : ps_Wo wn w) (hr : ps_Ru c ln rl ra le) (K : ∀ u', xx_OK L c wn ln rl u' → post (nI (ps_cn (fun k => ps_al n ((ps_TL n (ps_G n c ln rl)).getD k 0)) (ps_TL n (ps_G n c ln rl)).length)) u') : wpX_even post (nI L, nI c, tc, w, ra, le, im, tk, nn, mp, fs, ss) (nI n) := by
  unfold wpX_even
  dsimp only
  exact xx_isP_o h0 hn (br_f (by decide) (xx_find h0 hn hr hc (fun a' tk' hA => ⟨(ps_TL n (ps_G n c ln rl)).length + 1, xx_even19 h0 hn (ps_TL_len h0 hn) (fun k hk => ps_TLFa h0 hn hk) hA (fun a2 nn2 mp2 => K _ (xx_mk hL hc hw hr)) (ps_TL n (ps_G n c ln rl)).length 0 a' nn mp (by omega)⟩)))
theorem xx_kinds19 {post : Int32 → SX → Prop} {n : Nat} {T : List Nat} (h0 : 0 < n) (hn : n ≤ 5) (hT : T.length ≤ 461) (hF : ∀ k, k < T.length → ps_Fa n (T.getD k 0) ∧ ∀ s, s < n → ∃ R, ps_rn n (ps_gk n (T.getD k 0)) s = some R ∧ ps_D5 (4 * n) R) (hA : ps_Ar tk 0 T) (K : ∀ a' nn' mp', post (nI (ps_cn (fun k => ps_fi n (T.getD k 0)) T.length)) (nI L, nI c, nI T.length, w, ra, le, a', tk, nn', mp', fs, ss)) : ∀ d k a' nn' mp', k + d = T.length → wX_kinds_19 post (nI n) (d + 1) (nI (ps_cn (fun k => ps_fi n (T.getD k 0)) k)) (nI k) (nI L) (nI c) (nI T.length) w ra le a' tk nn' mp' fs ss := by
  intro d
  induction d with
  | zero =>
    intro k a' nn' mp' hk
    obtain rfl : k = T.length := by omega
    exact br_t (nI_le (by omega) (by omega)) (K a' nn' mp')
  | succ d ih =>
    intro k a' nn' mp' hk
    have hkT : k < T.length := by omega
    have f := hF k hkT
    have et : tk k = lN (T.getD k 0) := by
      have q := hA k hkT
      rw [Nat.zero_add] at q
      exact q
    refine br_f (nI_ge hkT (by omega)) (xx_load hn (by omega) et (ps_K8 hn f.1.2.2) (fun a2 hI => ⟨vp_in_nI (by omega) (by decide), xx_first (ps_rdL rfl (by omega) et) h0 hn f.1.2.2 hI f.2 (fun nn2 mp2 => ?_)⟩))
    have hq := ih (k + 1) a2 nn2 mp2 (by omega)
    rw [ps_cn] at hq
    cases e : ps_fi n (T.getD k 0) with
    | false =>
      rw [e] at hq
      exact br_t rfl (nm_r (nI_1 k) hq)
    | true =>
      rw [e] at hq
      exact br_f (by decide) (nm_r (nI_1 _) (nm_r (nI_1 k) hq))
theorem xx_kinds_b {post : Int32 → SX → Prop} {v : Int32} (h : v < 1 ∨ 5 < v) (k : post (-1) (nI L, nI c, tc, w, ra, le, im, tk, nn, mp, fs, ss)) : wpX_kinds post (nI L, nI c, tc, w, ra, le, im, tk, nn, mp, fs, ss) v := by
  unfold wpX_kinds
  dsimp only
  exact xx_isP_b h (br_t rfl k)
theorem xx_kinds_o {post : Int32 → SX → Prop} {n : Nat} (h0 : 0 < n) (hn : n ≤ 5) (hL : L ≤ 8) (hc : c ≤ 4) (hw : ps_Wo wn w) (hr : ps_Ru c ln rl ra le) (K : ∀ u', xx_OK L c wn ln rl u' → post (nI (ps_cn (fun k => ps_fi n ((ps_TL n (ps_G n c ln rl)).getD k 0)) (ps_TL n (ps_G n c ln rl)).length)) u') : wpX_kinds post (nI L, nI c, tc, w, ra, le, im, tk, nn, mp, fs, ss) (nI n) := by
  unfold wpX_kinds
  dsimp only
  exact xx_isP_o h0 hn (br_f (by decide) (xx_find h0 hn hr hc (fun a' tk' hA => ⟨(ps_TL n (ps_G n c ln rl)).length + 1, xx_kinds19 h0 hn (ps_TL_len h0 hn) (fun k hk => ps_TLFa h0 hn hk) hA (fun a2 nn2 mp2 => K _ (xx_mk hL hc hw hr)) (ps_TL n (ps_G n c ln rl)).length 0 a' nn mp (by omega)⟩)))
end
