/-! the reference: numbering anew; even, kinds -/
def yy_nv (e : Nat) : Int32 := if e = 9 then -1 else nI e
theorem yy_nvn {e : Nat} (h : e ≠ 9) : yy_nv e = nI e := if_neg h
def yy_Rn (n : Nat) (f : Nat → Nat) (a : Nat → Int32) : Prop := ∀ q, q < n → a q = yy_nv (f q)
theorem yy_Rn_up {n : Nat} {f : Nat → Nat} {a : Nat → Int32} (h : yy_Rn n f a) (q met : Nat) (hm : met ≠ 9) : yy_Rn n (ps_up f q met) (upd a q (nI met)) := by
  intro x hx
  show (if x = q then nI met else a x) = yy_nv (if x = q then met else f x)
  by_cases e : x = q
  · rw [if_pos e, if_pos e, yy_nvn hm]
  · rw [if_neg e, if_neg e]
    exact h x hx
def ps_as (n K s : Nat) : Bool := decide (∀ q, q < s → 0 < q → ps_rn n (ps_gk n K) q = some K)
def ps_fs (n K s : Nat) : Bool := decide (∀ q, q < s → 0 < q → ps_ltO n K q = false)
section
variable {L c : Nat} {mn : Int32} {w le ra fi se pm im ot od pl kn an tb : Nat → Int32} {ks : Nat → Int64}
theorem yy_fr51 {post : Int64 → SY → Prop} {J : Int32 → Int64 → Int32 → (Nat → Int32) → (Nat → Int32) → (Nat → Int32) → (Nat → Int32) → (Nat → Int32) → (Nat → Int32) → (Nat → Int32) → (Nat → Int32) → (Nat → Int32) → (Nat → Int32) → (Nat → Int32) → (Nat → Int32) → (Nat → Int32) → (Nat → Int64) → Prop} {n i q0 R : Nat} {g : Nat → Nat → Nat} {k : Nat → (Nat → Nat) → (Nat → Nat) → Nat → Option Nat} (hn : n ≤ 5) (hi : i < n) (hq0 : q0 < n) (hI : ps_YI im n g) (KJ : ∀ met' f' m' key' od' pl', met' ≤ n → yy_Rn n f' pl' → ps_Rm met' m' od' → k met' f' m' key' = some R → J (nI met') (lN (ps_cv (4 * (i + 1)) key')) (nI (i + 1)) w le ra fi se pm im ot od' pl' kn an tb ks) : ∀ d l met f m key od' pl', l + d = 4 → i < met → met ≤ n → m i = q0 → yy_Rn n f pl' → ps_Rm met m od' → ps_nL n g q0 k d l met f m key = some R → wY_from_51 post J (nI n) (nI i) (nI L) (nI c) mn (d + 1) (nI met) (lN (ps_cv (4 * i + l) key)) (nI l) w le ra fi se pm im ot od' pl' kn an tb ks := by
  intro d
  induction d with
  | zero =>
    intro l met f m key od' pl' hl him hm hmi h1 h2 hR
    obtain rfl : l = 4 := by omega
    exact br_t (nI_le (a := 4) (b := 4) (by decide) (by decide)) (nm_r (nI_1 i) (KJ met f m key od' pl' hm h1 h2 hR))
  | succ d ih =>
    intro l met f m key od' pl' hl him hm hmi h1 h2 hR
    rw [ps_nL, ps_fc_eq] at hR
    by_cases hq : g l q0 < n
    · rw [if_pos hq, ps_fc_eq] at hR
      have eo : od' (nI i).toNatClampNeg = nI q0 := ps_rd rfl (by omega) (by rw [h2 i him, hmi])
      have ex : (5 * nI l) + od' (nI i).toNatClampNeg = nI (5 * l + q0) := by rw [eo]; exact ps_5x _ _
      have v8 : vp_in (nI (g l q0)) 5 := vp_in_nI (by omega) (by decide)
      have ea : pl' (nI (g l q0)).toNatClampNeg = yy_nv (f (g l q0)) := ps_rd rfl (by omega) (h1 _ hq)
      refine br_f (nI_ge (b := 4) (by omega) (by decide)) ⟨vp_in_nI (by omega) (by decide), ⟨pk_in (5 * l + q0) 20 (by omega) ex, nm_r (e' := nI (g l q0)) (ps_rd ex (by omega) (hI l (by omega) q0 hq0)) ⟨v8, ?_⟩⟩⟩
      by_cases h9 : f (g l q0) = 9
      · rw [if_pos h9] at hR
        by_cases hmn : met < n
        · rw [if_pos hmn] at hR
          have hne : met ≠ 9 := by omega
          have hb := ih (l + 1) (met + 1) _ _ _ _ _ (by omega) (by omega) (by omega) (show ps_up m met (g l q0) i = q0 by rw [ps_up, if_neg (by omega)]; exact hmi) (yy_Rn_up h1 (g l q0) met hne) (ps_Rm_up h2 (g l q0)) hR
          refine br_f (by rw [ea, h9]; decide) ⟨v8, nm_r (e' := upd pl' (g l q0) (nI met)) (ps_wr rfl (by omega) rfl) ⟨vp_in_nI (by omega) (by decide), nm_r (e' := upd od' met (nI (g l q0))) (ps_wr rfl (by omega) rfl) (nm_r (nI_1 met) ⟨v8, nm_r (e' := lN (ps_cv (4 * i + (l + 1)) (8 * key + met))) ?_ (nm_r (nI_1 l) hb)⟩)⟩⟩
          rw [ps_rd rfl (by omega) pk_us, ps_5k _ (by omega), ← Nat.add_assoc, ps_cv_st (by omega)]
        · rw [if_neg hmn] at hR
          cases hR
      · rw [if_neg h9] at hR
        by_cases he : f (g l q0) < n
        · rw [if_pos he] at hR
          have hb := ih (l + 1) met f m _ od' pl' (by omega) him hm hmi h1 h2 hR
          refine br_t (by rw [ea, yy_nvn h9]; exact nI_pos' (by omega)) ⟨v8, nm_r (e' := lN (ps_cv (4 * i + (l + 1)) (8 * key + f (g l q0)))) ?_ (nm_r (nI_1 l) hb)⟩
          rw [ea, yy_nvn h9, ps_5k _ (by omega), ← Nat.add_assoc, ps_cv_st (by omega)]
        · rw [if_neg he] at hR
          cases hR
    · rw [if_neg hq] at hR
      cases hR
theorem yy_fr42 {post : Int64 → SY → Prop} {n R : Nat} {g : Nat → Nat → Nat} (hn : n ≤ 5) (hI : ps_YI im n g) (KK : ∀ od' pl', post (lN (ps_cv (4 * n) R)) (nI L, nI c, mn, w, le, ra, fi, se, pm, im, ot, od', pl', kn, an, tb, ks)) : ∀ d i met f m key od' pl', i + d = n → met ≤ n → yy_Rn n f pl' → ps_Rm met m od' → ps_nR n g d i met f m key = some R → wY_from_42 post (nI n) (nI L) (nI c) mn (d + 1) (nI met) (lN (ps_cv (4 * i) key)) (nI i) w le ra fi se pm im ot od' pl' kn an tb ks := by
  intro d
  induction d with
  | zero =>
    intro i met f m key od' pl' hi hm h1 h2 hR
    obtain rfl : i = n := by omega
    have e : key = R := Option.some.inj hR
    subst e
    exact br_t (nI_le (by omega) (by omega)) (KK od' pl')
  | succ d ih =>
    intro i met f m key od' pl' hi hm h1 h2 hR
    rw [ps_nR] at hR
    by_cases z : i < met
    · rw [if_pos z] at hR
      by_cases z2 : m i < n
      · rw [if_pos z2] at hR
        exact br_f (nI_ge (by omega) (by omega)) ⟨5, yy_fr51 hn (by omega) z2 hI (fun met' f' m' key' od2 pl2 q1 q2 q3 q4 => ih (i + 1) met' f' m' key' od2 pl2 (by omega) q1 q2 q3 q4) 4 0 met f m key od' pl' rfl z hm rfl h1 h2 hR⟩
      · rw [if_neg z2] at hR
        cases hR
    · rw [if_neg z] at hR
      cases hR
theorem yy_fr2 {post : Int64 → SY → Prop} {n s R : Nat} {g : Nat → Nat → Nat} (hn : n ≤ 5) (hs : s < n) (hI : ps_YI im n g) (hR : ps_rn n g s = some R) (KK : ∀ od' pl', post (lN (ps_cv (4 * n) R)) (nI L, nI c, mn, w, le, ra, fi, se, pm, im, ot, od', pl', kn, an, tb, ks)) : ∀ d i pl', i + d = n → (∀ q, q < i → pl' q = -1) → wY_from_2 post (nI s) (nI n) (nI L) (nI c) mn (d + 1) (nI i) w le ra fi se pm im ot od pl' kn an tb ks := by
  intro d
  induction d with
  | zero =>
    intro i pl' hi h
    obtain rfl : i = n := by omega
    refine br_t (nI_le (by omega) (by omega)) (nm_e ⟨vp_in_nI (by omega) (by decide), nm_r (e' := upd pl' s (nI 0)) (ps_wr rfl (by omega) rfl) ⟨i + 1, yy_fr42 hn hI KK i 0 1 _ _ 0 _ _ (by omega) (by omega) (yy_Rn_up (f := fun _ => 9) (fun q hq => ?_) s 0 (by decide)) (fun j hj => ?_) hR⟩⟩)
    · exact h q hq
    · obtain rfl : j = 0 := by omega
      exact pk_us
  | succ d ih =>
    intro i pl' hi h
    refine br_f (nI_ge (by omega) (by omega)) ⟨vp_in_nI (by omega) (by decide), nm_r (e' := upd pl' i (-1)) (ps_wr rfl (by omega) rfl) (nm_r (nI_1 i) (ih (i + 1) _ (by omega) (fun q hq => ?_)))⟩
    by_cases e : q = i
    · subst e
      exact pk_us
    · rw [pk_un e]
      exact h q (by omega)
theorem yy_from {post : Int64 → SY → Prop} {n s R : Nat} {g : Nat → Nat → Nat} (hn : n ≤ 5) (hs : s < n) (hI : ps_YI im n g) (hR : ps_rn n g s = some R) (KK : ∀ od' pl', post (lN (ps_cv (4 * n) R)) (nI L, nI c, mn, w, le, ra, fi, se, pm, im, ot, od', pl', kn, an, tb, ks)) : wpY_from post (nI L, nI c, mn, w, le, ra, fi, se, pm, im, ot, od, pl, kn, an, tb, ks) (nI s) (nI n) :=
  ⟨n + 1, yy_fr2 hn hs hI hR KK n 0 pl (by omega) (fun q hq => by omega)⟩
end
section
variable {L c : Nat} {mn : Int32} {w le ra fi se pm im ot od pl kn an tb : Nat → Int32} {ks : Nat → Int64}
variable {wn ln : Nat → Nat} {rl : Nat → Nat → Nat}
theorem yy_even41 {post : Int32 → SY → Prop} {J : Int32 → Int32 → Int32 → Int32 → Int32 → (Nat → Int32) → (Nat → Int32) → (Nat → Int32) → (Nat → Int32) → (Nat → Int32) → (Nat → Int32) → (Nat → Int32) → (Nat → Int32) → (Nat → Int32) → (Nat → Int32) → (Nat → Int32) → (Nat → Int32) → (Nat → Int32) → (Nat → Int64) → Prop} {n k K C : Nat} (hn : n ≤ 5) (hk4 : k < 461) (hK : ps_D5 (4 * n) K) (hI : ps_YI im n (ps_gk n K)) (hs : ∀ s, s < n → ∃ R, ps_rn n (ps_gk n K) s = some R ∧ ps_D5 (4 * n) R) (hks : ks (461 * n + k) = lN (ps_cv (4 * n) K)) (k0 : ps_al n K = false → ∀ od' pl', J (nI C) (nI (k + 1)) (nI L) (nI c) mn w le ra fi se pm im ot od' pl' kn an tb ks) (k1 : ps_al n K = true → ∀ od' pl', J (nI (C + 1)) (nI (k + 1)) (nI L) (nI c) mn w le ra fi se pm im ot od' pl' kn an tb ks) : ∀ d s od' pl', s + d = n → 0 < s → wY_even_41 post J (nI n) (nI C) (nI k) (d + 1) (ps_b (ps_as n K s)) (nI s) (nI L) (nI c) mn w le ra fi se pm im ot od' pl' kn an tb ks := by
  have ev : ks ((461 * nI n) + nI k).toNatClampNeg = lN (ps_cv (4 * n) K) := ps_rdL (ps_46x n k) (by omega) hks
  have b2 : ps_cv (4 * n) K < 2 ^ 63 := Nat.lt_trans (ps_K5 hn hK) (by decide)
  intro d
  induction d with
  | zero =>
    intro s od' pl' hd h0
    obtain rfl : s = n := by omega
    refine br_t (nI_le (by omega) (by omega)) ?_
    cases e : ps_as s K s with
    | false => exact br_t rfl (nm_r (nI_1 k) (k0 e od' pl'))
    | true => exact br_f (by decide) (nm_r (nI_1 C) (nm_r (nI_1 k) (k1 e od' pl')))
  | succ d ih =>
    intro s od' pl' hd h0
    refine br_f (nI_ge (by omega) (by omega)) ?_
    cases e : ps_as n K s with
    | false =>
      have hq := ih (s + 1) od' pl' (by omega) (by omega)
      have e2 : ps_as n K (s + 1) = false := decide_eq_false (fun hh => of_decide_eq_false e (fun q h1 h2 => hh q (by omega) h2))
      rw [e2] at hq
      exact br_t rfl (nm_r (nI_1 s) hq)
    | true =>
      have e := of_decide_eq_true e
      obtain ⟨R, hR, hD⟩ := hs s (by omega)
      have b1 : ps_cv (4 * n) R < 2 ^ 63 := Nat.lt_trans (ps_K5 hn hD) (by decide)
      refine br_f (by decide) (yy_from hn (by omega) hI hR (fun od2 pl2 => ⟨pk_in (461 * n + k) 2766 (by omega) (ps_46x n k), ?_⟩))
      have hq := ih (s + 1) od2 pl2 (by omega) (by omega)
      rw [ev]
      by_cases z : R = K
      · have e2 : ps_as n K (s + 1) = true := decide_eq_true (fun q h1 h2 => by
          by_cases w : q = s
          · rw [w, hR, z]
          · exact e q (by omega) h2)
        rw [e2] at hq
        exact br_t (by rw [z]) (nm_r (nI_1 s) hq)
      · have e2 : ps_as n K (s + 1) = false := decide_eq_false (fun hh => z (Option.some.inj (hR.symm.trans (hh s (by omega) h0))))
        rw [e2] at hq
        exact br_f (fun q => z ((ps_cv_eq hD hK).mpr ((pk_lEQ b1 b2).mp q))) (nm_r (nI_1 s) hq)
theorem yy_even19 {post : Int32 → SY → Prop} {n : Nat} {T : List Nat} (h0 : 0 < n) (hn : n ≤ 5) (hT : T.length ≤ 461) (htb : tb n = nI T.length) (hF : ∀ k, k < T.length → ps_Fa n (T.getD k 0) ∧ ∀ s, s < n → ∃ R, ps_rn n (ps_gk n (T.getD k 0)) s = some R ∧ ps_D5 (4 * n) R) (hA : ∀ k, k < T.length → ks (461 * n + k) = lN (ps_cv (4 * n) (T.getD k 0))) (K : ∀ im' od' pl', post (nI (ps_cn (fun k => ps_al n (T.getD k 0)) T.length)) (nI L, nI c, mn, w, le, ra, fi, se, pm, im', ot, od', pl', kn, an, tb, ks)) : ∀ d k im' od' pl', k + d = T.length → wY_even_19 post (nI n) (d + 1) (nI (ps_cn (fun k => ps_al n (T.getD k 0)) k)) (nI k) (nI L) (nI c) mn w le ra fi se pm im' ot od' pl' kn an tb ks := by
  have vn : vp_in (nI n) 6 := vp_in_nI (by omega) (by decide)
  have et : tb (nI n).toNatClampNeg = nI T.length := ps_rd rfl (by omega) htb
  intro d
  induction d with
  | zero =>
    intro k im' od' pl' hk
    obtain rfl : k = T.length := by omega
    exact ⟨vn, br_t (by rw [et]; exact nI_le (by omega) (by omega)) (K im' od' pl')⟩
  | succ d ih =>
    intro k im' od' pl' hk
    have hkT : k < T.length := by omega
    have f := hF k hkT
    refine ⟨vn, br_f (by rw [et]; exact nI_ge hkT (by omega)) (yy_spread hn (by omega) (hA k hkT) f.1.2.2 (fun im2 hI => ⟨n - 1 + 1, yy_even41 (K := T.getD k 0) hn (by omega) f.1.2.2 hI f.2 (hA k hkT) (fun e od2 pl2 => ?_) (fun e od2 pl2 => ?_) (n - 1) 1 od' pl' (by omega) (by omega)⟩))⟩
    · have hq := ih (k + 1) im2 od2 pl2 (by omega)
      rw [ps_cn, e] at hq
      exact hq
    · have hq := ih (k + 1) im2 od2 pl2 (by omega)
      rw [ps_cn, e] at hq
      exact hq
theorem yy_even_b {post : Int32 → SY → Prop} {v : Int32} (h : v < 1 ∨ 5 < v) (k : post (-1) (nI L, nI c, mn, w, le, ra, fi, se, pm, im, ot, od, pl, kn, an, tb, ks)) : wpY_even post (nI L, nI c, mn, w, le, ra, fi, se, pm, im, ot, od, pl, kn, an, tb, ks) v := by
  unfold wpY_even
  dsimp only
  exact yy_bad_b h (br_f (by decide) k)
theorem yy_even_o {post : Int32 → SY → Prop} {n : Nat} (h0 : 0 < n) (hn : n ≤ 5) (hL : L ≤ 8) (hc : c ≤ 4) (hw : ps_Wo wn w) (hr : ps_Ru c ln rl ra le) (hY : ps_YC c ln rl kn an tb ks) (K : ∀ u', yy_OK L c wn ln rl u' → post (nI (ps_cn (fun k => ps_al n ((ps_TL n (ps_G n c ln rl)).getD k 0)) (ps_TL n (ps_G n c ln rl)).length)) u') : wpY_even post (nI L, nI c, mn, w, le, ra, fi, se, pm, im, ot, od, pl, kn, an, tb, ks) (nI n) := by
  unfold wpY_even
  dsimp only
  exact yy_bad_o h0 hn (br_t rfl (yy_work h0 hn hr hc hY (fun mn' pm' im' kn' an' tb' ks' hY' hk => ⟨(ps_TL n (ps_G n c ln rl)).length + 1, yy_even19 h0 hn (ps_TL_len h0 hn) (ps_YC_at hY' h0 hn hk).2.1 (fun k hk => ps_TLFa h0 hn hk) (fun k hk2 => ps_ks (ps_YC_at hY' h0 hn hk).2.2 hk2) (fun im2 od2 pl2 => K _ (yy_mk hL hc hw hr hY')) (ps_TL n (ps_G n c ln rl)).length 0 im' od pl (by omega)⟩)))
theorem yy_kinds41 {post : Int32 → SY → Prop} {J : Int32 → Int32 → Int32 → Int32 → Int32 → (Nat → Int32) → (Nat → Int32) → (Nat → Int32) → (Nat → Int32) → (Nat → Int32) → (Nat → Int32) → (Nat → Int32) → (Nat → Int32) → (Nat → Int32) → (Nat → Int32) → (Nat → Int32) → (Nat → Int32) → (Nat → Int32) → (Nat → Int64) → Prop} {n k K C : Nat} (hn : n ≤ 5) (hk4 : k < 461) (hK : ps_D5 (4 * n) K) (hI : ps_YI im n (ps_gk n K)) (hs : ∀ s, s < n → ∃ R, ps_rn n (ps_gk n K) s = some R ∧ ps_D5 (4 * n) R) (hks : ks (461 * n + k) = lN (ps_cv (4 * n) K)) (k0 : ps_fi n K = false → ∀ od' pl', J (nI C) (nI (k + 1)) (nI L) (nI c) mn w le ra fi se pm im ot od' pl' kn an tb ks) (k1 : ps_fi n K = true → ∀ od' pl', J (nI (C + 1)) (nI (k + 1)) (nI L) (nI c) mn w le ra fi se pm im ot od' pl' kn an tb ks) : ∀ d s od' pl', s + d = n → 0 < s → wY_kinds_41 post J (nI n) (nI C) (nI k) (d + 1) (ps_b (ps_fs n K s)) (nI s) (nI L) (nI c) mn w le ra fi se pm im ot od' pl' kn an tb ks := by
  have ev : ks ((461 * nI n) + nI k).toNatClampNeg = lN (ps_cv (4 * n) K) := ps_rdL (ps_46x n k) (by omega) hks
  have b2 : ps_cv (4 * n) K < 2 ^ 63 := Nat.lt_trans (ps_K5 hn hK) (by decide)
  intro d
  induction d with
  | zero =>
    intro s od' pl' hd h0
    obtain rfl : s = n := by omega
    refine br_t (nI_le (by omega) (by omega)) ?_
    cases e : ps_fs s K s with
    | false => exact br_t rfl (nm_r (nI_1 k) (k0 e od' pl'))
    | true => exact br_f (by decide) (nm_r (nI_1 C) (nm_r (nI_1 k) (k1 e od' pl')))
  | succ d ih =>
    intro s od' pl' hd h0
    refine br_f (nI_ge (by omega) (by omega)) ?_
    cases e : ps_fs n K s with
    | false =>
      have hq := ih (s + 1) od' pl' (by omega) (by omega)
      have e2 : ps_fs n K (s + 1) = false := decide_eq_false (fun hh => of_decide_eq_false e (fun q h1 h2 => hh q (by omega) h2))
      rw [e2] at hq
      exact br_t rfl (nm_r (nI_1 s) hq)
    | true =>
      have e := of_decide_eq_true e
      obtain ⟨R, hR, hD⟩ := hs s (by omega)
      have b1 : ps_cv (4 * n) R < 2 ^ 63 := Nat.lt_trans (ps_K5 hn hD) (by decide)
      refine br_f (by decide) (yy_from hn (by omega) hI hR (fun od2 pl2 => ⟨pk_in (461 * n + k) 2766 (by omega) (ps_46x n k), ?_⟩))
      have hq := ih (s + 1) od2 pl2 (by omega) (by omega)
      rw [ev]
      have el : ps_ltO n K s = decide (R < K) := by rw [ps_ltO, hR]
      have hlt := ps_cv_lt (4 * n) R K hD hK
      by_cases z : R < K
      · have e2 : ps_fs n K (s + 1) = false := decide_eq_false (fun hh => by
          have q := hh s (by omega) h0
          rw [el] at q
          exact absurd z (of_decide_eq_false q))
        rw [e2] at hq
        exact br_t ((pk_lLT b1 b2).mpr (hlt.mp z)) (nm_r (nI_1 s) hq)
      · have e2 : ps_fs n K (s + 1) = true := decide_eq_true (fun q h1 h2 => by
          by_cases w : q = s
          · rw [w, el]
            exact decide_eq_false z
          · exact e q (by omega) h2)
        rw [e2] at hq
        exact br_f (fun q => z (hlt.mpr ((pk_lLT b1 b2).mp q))) (nm_r (nI_1 s) hq)
theorem yy_kinds19 {post : Int32 → SY → Prop} {n : Nat} {T : List Nat} (h0 : 0 < n) (hn : n ≤ 5) (hT : T.length ≤ 461) (htb : tb n = nI T.length) (hF : ∀ k, k < T.length → ps_Fa n (T.getD k 0) ∧ ∀ s, s < n → ∃ R, ps_rn n (ps_gk n (T.getD k 0)) s = some R ∧ ps_D5 (4 * n) R) (hA : ∀ k, k < T.length → ks (461 * n + k) = lN (ps_cv (4 * n) (T.getD k 0))) (K : ∀ im' od' pl', post (nI (ps_cn (fun k => ps_fi n (T.getD k 0)) T.length)) (nI L, nI c, mn, w, le, ra, fi, se, pm, im', ot, od', pl', kn, an, tb, ks)) : ∀ d k im' od' pl', k + d = T.length → wY_kinds_19 post (nI n) (d + 1) (nI (ps_cn (fun k => ps_fi n (T.getD k 0)) k)) (nI k) (nI L) (nI c) mn w le ra fi se pm im' ot od' pl' kn an tb ks := by
  have vn : vp_in (nI n) 6 := vp_in_nI (by omega) (by decide)
  have et : tb (nI n).toNatClampNeg = nI T.length := ps_rd rfl (by omega) htb
  intro d
  induction d with
  | zero =>
    intro k im' od' pl' hk
    obtain rfl : k = T.length := by omega
    exact ⟨vn, br_t (by rw [et]; exact nI_le (by omega) (by omega)) (K im' od' pl')⟩
  | succ d ih =>
    intro k im' od' pl' hk
    have hkT : k < T.length := by omega
    have f := hF k hkT
    refine ⟨vn, br_f (by rw [et]; exact nI_ge hkT (by omega)) (yy_spread hn (by omega) (hA k hkT) f.1.2.2 (fun im2 hI => ⟨n - 1 + 1, yy_kinds41 (K := T.getD k 0) hn (by omega) f.1.2.2 hI f.2 (hA k hkT) (fun e od2 pl2 => ?_) (fun e od2 pl2 => ?_) (n - 1) 1 od' pl' (by omega) (by omega)⟩))⟩
    · have hq := ih (k + 1) im2 od2 pl2 (by omega)
      rw [ps_cn, e] at hq
      exact hq
    · have hq := ih (k + 1) im2 od2 pl2 (by omega)
      rw [ps_cn, e] at hq
      exact hq
theorem yy_kinds_b {post : Int32 → SY → Prop} {v : Int32} (h : v < 1 ∨ 5 < v) (k : post (-1) (nI L, nI c, mn, w, le, ra, fi, se, pm, im, ot, od, pl, kn, an, tb, ks)) : wpY_kinds post (nI L, nI c, mn, w, le, ra, fi, se, pm, im, ot, od, pl, kn, an, tb, ks) v := by
  unfold wpY_kinds
  dsimp only
  exact yy_bad_b h (br_f (by decide) k)
theorem yy_kinds_o {post : Int32 → SY → Prop} {n : Nat} (h0 : 0 < n) (hn : n ≤ 5) (hL : L ≤ 8) (hc : c ≤ 4) (hw : ps_Wo wn w) (hr : ps_Ru c ln rl ra le) (hY : ps_YC c ln rl kn an tb ks) (K : ∀ u', yy_OK L c wn ln rl u' → post (nI (ps_cn (fun k => ps_fi n ((ps_TL n (ps_G n c ln rl)).getD k 0)) (ps_TL n (ps_G n c ln rl)).length)) u') : wpY_kinds post (nI L, nI c, mn, w, le, ra, fi, se, pm, im, ot, od, pl, kn, an, tb, ks) (nI n) := by
  unfold wpY_kinds
  dsimp only
  exact yy_bad_o h0 hn (br_t rfl (yy_work h0 hn hr hc hY (fun mn' pm' im' kn' an' tb' ks' hY' hk => ⟨(ps_TL n (ps_G n c ln rl)).length + 1, yy_kinds19 h0 hn (ps_TL_len h0 hn) (ps_YC_at hY' h0 hn hk).2.1 (fun k hk => ps_TLFa h0 hn hk) (fun k hk2 => ps_ks (ps_YC_at hY' h0 hn hk).2.2 hk2) (fun im2 od2 pl2 => K _ (yy_mk hL hc hw hr hY')) (ps_TL n (ps_G n c ln rl)).length 0 im' od pl (by omega)⟩)))
end
