/-! what the questions ask of a table -/
theorem ps_mk_lt {n : Nat} (h0 : 0 < n) (hn : n ≤ 5) (code : Nat) : ∀ i, ps_mk n code i < 2 ^ 5
  | 0 => by simp [ps_mk]
  | i + 1 => by
    have h := ps_mk_lt h0 hn code i
    have d : code / n ^ i % n < n := Nat.mod_lt _ h0
    rw [ps_mk]
    exact Nat.or_lt_two_pow h (Nat.pow_lt_pow_right (by decide) (by omega))
def ps_al (n K : Nat) : Bool := decide (∀ s, s < n → 0 < s → ps_rn n (ps_gk n K) s = some K)
def ps_ltO (n K s : Nat) : Bool := match ps_rn n (ps_gk n K) s with
  | none => false
  | some R => decide (R < K)
def ps_fi (n K : Nat) : Bool := decide (∀ s, s < n → 0 < s → ps_ltO n K s = false)
def ps_fx (wn : Nat → Nat) (L n K : Nat) : Bool := decide (ps_wk (ps_gk n K) wn L 0 = 0)
def ps_wa (wn : Nat → Nat) (L n K : Nat) : Bool := decide (∀ p, p < n → ps_wk (ps_gk n K) wn L p = p)
/-- what is known of a table in the list -/
theorem ps_TLFa {n c : Nat} {ln : Nat → Nat} {rl : Nat → Nat → Nat} {k : Nat} (h0 : 0 < n) (hn : n ≤ 5) (hk : k < (ps_TL n (ps_G n c ln rl)).length) : ps_Fa n ((ps_TL n (ps_G n c ln rl)).getD k 0) ∧ ∀ s, s < n → ∃ R, ps_rn n (ps_gk n ((ps_TL n (ps_G n c ln rl)).getD k 0)) s = some R ∧ ps_D5 (4 * n) R := by
  have h := ps_TL_mem (ps_gIn (d := 0) hk)
  exact ⟨ev_XLFa h0 hn h.1, fun s hs => ev_rn h0 hn h.1 (ps_G_T _ h.2) hs⟩
theorem ps_p8 {n : Nat} (hn : n ≤ 5) : 8 ^ (4 * n) < 2 ^ 61 := by
  have : 8 ^ (4 * n) ≤ 8 ^ (4 * 5) := Nat.pow_le_pow_right (by decide) (by omega)
  exact Nat.lt_of_le_of_lt this (by decide)
theorem ps_p5 {n : Nat} (hn : n ≤ 5) : 5 ^ (4 * n) < 2 ^ 61 := by
  have : 5 ^ (4 * n) ≤ 5 ^ (4 * 5) := Nat.pow_le_pow_right (by decide) (by omega)
  exact Nat.lt_of_le_of_lt this (by decide)
theorem ps_K8 {n K : Nat} (hn : n ≤ 5) (h : ps_D5 (4 * n) K) : K < 2 ^ 61 := Nat.lt_trans (ps_D5_8 _ _ h) (ps_p8 hn)
theorem ps_K5 {n K : Nat} (hn : n ≤ 5) (h : ps_D5 (4 * n) K) : ps_cv (4 * n) K < 2 ^ 61 := Nat.lt_trans (ps_cv_5 _ _ h) (ps_p5 hn)
/-- the keys kept after t pairs -/
def ps_Kp (e : Nat → Nat) (G : Nat → Bool) (f : Nat → Nat) (t : Nat) (L : List Nat) : Prop := L.Pairwise (· ≤ ·) ∧ L.Perm ((((List.range t).map e).filter G).map f)
theorem ps_Kp_0 (e : Nat → Nat) (G : Nat → Bool) (f : Nat → Nat) : ps_Kp e G f 0 [] := ⟨List.Pairwise.nil, List.Perm.refl _⟩
theorem ps_Kp_ft {e : Nat → Nat} {G : Nat → Bool} {t : Nat} (h : G (e t) = true) : ((List.range (t + 1)).map e).filter G = ((List.range t).map e).filter G ++ [e t] := by
  rw [ps_pre_s, List.filter_append]
  congr 1
  rw [List.filter_cons, if_pos h]
  rfl
theorem ps_Kp_ff {e : Nat → Nat} {G : Nat → Bool} {t : Nat} (h : ¬ G (e t) = true) : ((List.range (t + 1)).map e).filter G = ((List.range t).map e).filter G := by
  rw [ps_pre_s, List.filter_append, List.filter_cons, if_neg h]
  exact List.append_nil _
theorem ps_Kp_y {e : Nat → Nat} {G : Nat → Bool} {f : Nat → Nat} {t : Nat} {L L' : List Nat} (h : G (e t) = true) (hK : ps_Kp e G f t L) (hs : L'.Pairwise (· ≤ ·)) (hp : L'.Perm (f (e t) :: L)) : ps_Kp e G f (t + 1) L' := by
  refine ⟨hs, ?_⟩
  rw [ps_Kp_ft h, List.map_append]
  exact (hp.trans (hK.2.cons _)).trans (List.perm_append_singleton _ _).symm
theorem ps_Kp_n {e : Nat → Nat} {G : Nat → Bool} {f : Nat → Nat} {t : Nat} {L : List Nat} (h : ¬ G (e t) = true) (hK : ps_Kp e G f t L) : ps_Kp e G f (t + 1) L := by
  refine ⟨hK.1, ?_⟩
  rw [ps_Kp_ff h]
  exact hK.2
theorem ps_Kp_len {e : Nat → Nat} {G H : Nat → Bool} {f : Nat → Nat} {t M b : Nat} {L : List Nat} (hGH : ∀ K, G K = true → H K = true) (ht : t ≤ M) (hb : ((List.range M).map e).countP H ≤ b) (hK : ps_Kp e G f t L) : L.length ≤ b := by
  rw [hK.2.length_eq, List.length_map]
  exact ps_pre_le hGH ht hb
theorem ps_Kp_room {e : Nat → Nat} {G H : Nat → Bool} {f : Nat → Nat} {t M b : Nat} {L : List Nat} (hGH : ∀ K, G K = true → H K = true) (ht : t < M) (hb : ((List.range M).map e).countP H ≤ b) (hK : ps_Kp e G f t L) (h : G (e t) = true) : L.length < b := by
  have h1 := ps_pre_le (t := t + 1) hGH ht hb
  rw [ps_Kp_ft h, List.length_append, List.length_singleton] at h1
  rw [hK.2.length_eq, List.length_map]
  omega
theorem ps_cntY {n : Nat} (h0 : 0 < n) (hn : n ≤ 5) : (ps_YL n).countP (fun K => ps_isT n (ps_gk n K)) ≤ 461 := by
  rw [← (ps_XY (ev_perm h0 hn)).countP_eq]
  exact ev_cnt h0 hn
theorem ps_KpX {n : Nat} {G : Nat → Bool} {L : List Nat} (hK : ps_Kp (ps_eX n) G (fun K => K) (ps_fa n * ps_fa n) L) : L = ps_TL n G := by
  have h := hK.2
  rw [List.map_id'] at h
  exact ps_TL_X hK.1 h
theorem ps_KpY {n : Nat} (h0 : 0 < n) (hn : n ≤ 5) {G : Nat → Bool} {L : List Nat} (hK : ps_Kp (ps_eY n) G (ps_cv (4 * n)) ((ps_cY n).length * (ps_cY n).length) L) : L = (ps_TL n G).map (ps_cv (4 * n)) :=
  ps_TL_Y (fun K h => (ev_XLFa h0 hn h).2.2) (ps_XY (ev_perm h0 hn)) hK.1 hK.2
