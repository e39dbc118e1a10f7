/-! the component's kept tables -/
theorem ps_eX_mem {n t : Nat} (ht : t < ps_fa n * ps_fa n) : ps_eX n t ∈ ps_XL n := List.mem_map.mpr ⟨t, List.mem_range.mpr ht, rfl⟩
theorem ps_Kp_mem {e : Nat → Nat} {G : Nat → Bool} {f : Nat → Nat} {t : Nat} {L : List Nat} (h : ps_Kp e G f t L) {x : Nat} (hx : x ∈ L) : ∃ s, s < t ∧ x = f (e s) := by
  have h1 := h.2.mem_iff.mp hx
  obtain ⟨y, hy, rfl⟩ := List.mem_map.mp h1
  obtain ⟨s, hs, rfl⟩ := List.mem_map.mp (List.mem_filter.mp hy).1
  exact ⟨s, List.mem_range.mp hs, rfl⟩
theorem ps_snoc {α : Type} {m : Nat} {A : List α} (h : A.length = m + 1) : ∃ A' x, A = A' ++ [x] ∧ A'.length = m := by
  rcases List.eq_nil_or_concat A with rfl | ⟨A', x, rfl⟩
  · simp at h
  · refine ⟨A', x, by simp, ?_⟩
    simpa using h
section
variable {L c : Nat} {tc : Int32} {w ra le im nn mp fs ss : Nat → Int32} {tk : Nat → Int64}
theorem xx_kt53 {post : SX → Prop} {K T m : Nat} {A B : List Nat} {tk' : Nat → Int64} (hT : A.length + B.length = T) (hT4 : T < 461) (hm : A.length = m) (hS : ps_Sp tk' 0 A B) (hs : (A ++ B).Pairwise (· ≤ ·)) (hA : ∀ a, a ∈ A → a ≤ K) (hB : ∀ b, b ∈ B → K ≤ b) (KK : ∀ tk'' L', L'.Pairwise (· ≤ ·) → L'.Perm (K :: (A ++ B)) → ps_Ar tk'' 0 L' → post (nI L, nI c, nI (T + 1), w, ra, le, im, tk'', nn, mp, fs, ss)) : wX_keepTable_53 post (lN K) (nI m) (nI L) (nI c) (nI T) w ra le im tk' nn mp fs ss := by
  have hE := ps_Sp_end (K := K) hS
  rw [Nat.zero_add, hm] at hE
  exact ⟨vp_in_nI (by omega) (by decide), nm_r (ps_wrL rfl (by omega) rfl) (nm_r (nI_1 T) (KK _ _ (ps_srt hs hA hB) List.perm_middle hE))⟩
theorem xx_kt16 {post : SX → Prop} {K T : Nat} (hK : K < 2 ^ 63) (hT4 : T < 461) : ∀ m (A B : List Nat) tk', A.length = m → A.length + B.length = T → (∀ a, a ∈ A → a < 2 ^ 63) → ps_Sp tk' 0 A B → (A ++ B).Pairwise (· ≤ ·) → (∀ b, b ∈ B → K ≤ b) → (∀ tk'' L', L'.Pairwise (· ≤ ·) → L'.Perm (K :: (A ++ B)) → ps_Ar tk'' 0 L' → post (nI L, nI c, nI (T + 1), w, ra, le, im, tk'', nn, mp, fs, ss)) → wX_keepTable_16 post (lN K) (nI L) (nI c) (nI T) (m + 1) (nI m) w ra le im tk' nn mp fs ss := by
  intro m
  induction m with
  | zero =>
    intro A B tk' hm hT hb hS hs hB KK
    have hA : A = [] := List.eq_nil_of_length_eq_zero hm
    exact br_t (by decide) (xx_kt53 hT hT4 hm hS hs (fun a ha => by rw [hA] at ha; exact absurd ha List.not_mem_nil) hB KK)
  | succ m ih =>
    intro A B tk' hm hT hb hS hs hB KK
    obtain ⟨A', x, rfl, hm'⟩ := ps_snoc hm
    have hx : x < 2 ^ 63 := hb x (List.mem_append.mpr (Or.inr (List.mem_singleton.mpr rfl)))
    have e1 : nI (m + 1) - 1 = nI m := nI_pred m
    have ec : tk' (nI (m + 1) - 1).toNatClampNeg = lN x := by
      refine ps_rdL e1 (by omega) ?_
      have h := hS.1 m (by omega)
      rw [Nat.zero_add] at h
      rw [h, ← hm']
      have g := ps_gB (A := A') (B := [x]) (i := 0) (d := 0)
      rw [Nat.add_zero] at g
      rw [g]
      rfl
    have v1 : vp_in (nI (m + 1) - 1) 461 := pk_in m 461 (by omega) e1
    refine br_f (nI_nle (by omega) (by omega)) ⟨v1, ?_⟩
    by_cases z : x ≤ K
    · exact br_t (by rw [ec]; exact (pk_lLE hx hK).mpr z) (xx_kt53 hT hT4 hm hS hs (ps_srt_last hs z) hB KK)
    · refine br_f (by rw [ec, pk_lLE hx hK]; exact z) ⟨v1, ⟨vp_in_nI (by omega) (by decide), nm_r (e' := vp_updL tk' (0 + A'.length + 1) (tk' (0 + A'.length))) ?_ (nm_r (pk_m1 m) (ih A' (x :: B) _ hm' (by simp at hT ⊢; omega) (fun a ha => hb a (List.mem_append.mpr (Or.inl ha))) (ps_Sp_mv hS) (by simpa using hs) ?_ (fun tk'' L' q1 q2 q3 => KK tk'' L' q1 (by simpa using q2) q3)))⟩⟩
      · rw [Nat.zero_add, hm', e1, nI_clamp (by omega), nI_clamp (by omega)]
      · intro b hb'
        rcases List.mem_cons.mp hb' with rfl | hb'
        · omega
        · exact hB b hb'
theorem xx_keep {post : SX → Prop} {K : Nat} {A : List Nat} (hK : K < 2 ^ 63) (hT4 : A.length < 461) (hb : ∀ a, a ∈ A → a < 2 ^ 63) (hA : ps_Ar tk 0 A) (hs : A.Pairwise (· ≤ ·)) (KK : ∀ tk'' L', L'.Pairwise (· ≤ ·) → L'.Perm (K :: A) → ps_Ar tk'' 0 L' → post (nI L, nI c, nI (A.length + 1), w, ra, le, im, tk'', nn, mp, fs, ss)) : wpX_keepTable post (nI L, nI c, nI A.length, w, ra, le, im, tk, nn, mp, fs, ss) (lN K) :=
  br_t (nI_lt (b := 461) hT4 (by decide)) ⟨A.length + 1, xx_kt16 hK hT4 A.length A [] tk rfl rfl hb ⟨hA, fun i hi => absurd hi (Nat.not_lt_zero i)⟩ (by simpa using hs) (fun b hb => absurd hb List.not_mem_nil) (fun tk'' L' q1 q2 q3 => KK tk'' L' q1 (by simpa using q2) q3)⟩
theorem xx_ft28 {post : SX → Prop} {J : Int32 → Int32 → Int32 → Int32 → (Nat → Int32) → (Nat → Int32) → (Nat → Int32) → (Nat → Int32) → (Nat → Int64) → (Nat → Int32) → (Nat → Int32) → (Nat → Int32) → (Nat → Int32) → Prop} {n i : Nat} {ln : Nat → Nat} {rl : Nat → Nat → Nat} (h0 : 0 < n) (hn : n ≤ 5) (hr : ps_Ru c ln rl ra le) (hc : c ≤ 4) (hi : i < ps_fa n) (KJ : ∀ a' tk' A, ps_Kp (ps_eX n) (ps_G n c ln rl) (fun K => K) ((i + 1) * ps_fa n) A → ps_Ar tk' 0 A → J (nI (i + 1)) (nI L) (nI c) (nI A.length) w ra le a' tk' nn mp fs ss) : ∀ d j a' tk' A, j + d = ps_fa n → ps_Cl a' n 0 (ps_xl n i) → ps_Kp (ps_eX n) (ps_G n c ln rl) (fun K => K) (i * ps_fa n + j) A → ps_Ar tk' 0 A → wX_findTables_28 post J (nI n) (nI (ps_fa n)) (nI i) (d + 1) (nI j) (nI L) (nI c) (nI A.length) w ra le a' tk' nn mp fs ss := by
  have hfa := ev_fa hn
  intro d
  induction d with
  | zero =>
    intro j a' tk' A hj hC hK hA
    obtain rfl : j = ps_fa n := by omega
    rw [← Nat.succ_mul] at hK
    exact br_t (nI_le (by omega) (by omega)) (nm_r (nI_1 i) (KJ a' tk' A hK hA))
  | succ d ih =>
    intro j a' tk' A hj hC hK hA
    have hjN : j < ps_fa n := by omega
    have ht : i * ps_fa n + j < ps_fa n * ps_fa n := by
      have h1 : (i + 1) * ps_fa n ≤ ps_fa n * ps_fa n := Nat.mul_le_mul_right _ hi
      rw [Nat.succ_mul] at h1
      omega
    have eK := ps_eX_eq (n := n) (i := i) hjN
    have hF := ev_XLFa h0 hn (ps_eX_mem ht)
    have hG0 := ps_ac_Gd (ev_xl h0 hn hi) (ev_xl h0 hn hjN)
    refine br_f (nI_ge hjN (by omega)) (xx_setG (o := 2) h0 hn (Or.inr rfl) hjN (fun a2 hC2 hO => ?_))
    have hC1 : ps_Cl a2 n 0 (ps_xl n i) := fun p hp => by
      rw [hO _ (by omega) (by omega), hO _ (by omega) (by omega)]
      exact hC p hp
    have hI0 := ps_Cl_XI hC1 hC2
    have hI : ps_XI a2 n (ps_gk n (ps_eX n (i * ps_fa n + j))) := ps_XI_c hI0 (fun l hl p hp => by rw [eK]; exact ps_gk_ky hn hG0 l p hl hp)
    refine xx_num h0 hn hI hF.1 ?_
    cases hT : ps_isT n (ps_gk n (ps_eX n (i * ps_fa n + j))) with
    | false =>
      have hGf : ¬ ps_G n c ln rl (ps_eX n (i * ps_fa n + j)) = true := by
        rw [ps_G, hT, Bool.false_and]
        decide
      exact br_t rfl (nm_r (nI_1 j) (ih (j + 1) a2 tk' A (by omega) hC1 (ps_Kp_n hGf hK) hA))
    | true =>
      refine br_f (by decide) (xx_rh hn hI hF.1 hr hc ?_)
      cases hH : ps_hb n c ln rl (ps_gk n (ps_eX n (i * ps_fa n + j))) with
      | false =>
        have hGf : ¬ ps_G n c ln rl (ps_eX n (i * ps_fa n + j)) = true := by
          rw [ps_G, hT, hH]
          decide
        exact br_t rfl (nm_r (nI_1 j) (ih (j + 1) a2 tk' A (by omega) hC1 (ps_Kp_n hGf hK) hA))
      | true =>
        have hGt : ps_G n c ln rl (ps_eX n (i * ps_fa n + j)) = true := by rw [ps_G, hT, hH]; rfl
        refine br_f (by decide) (xx_koi hn hI0 hG0 ?_)
        rw [← eK]
        refine xx_keep (Nat.lt_trans (ps_K8 hn hF.2.2) (by decide)) (ps_Kp_room (M := ps_fa n * ps_fa n) (fun K h => ps_G_T K h) ht (ev_cnt h0 hn) hK hGt) (fun a ha => ?_) hA hK.1 (fun tk'' A' q1 q2 q3 => nm_r (nI_1 j) ?_)
        · obtain ⟨s, hs, rfl⟩ := ps_Kp_mem hK ha
          exact Nat.lt_trans (ps_K8 hn (ev_XLFa h0 hn (ps_eX_mem (by omega))).2.2) (by decide)
        · have hl : A.length + 1 = A'.length := by rw [q2.length_eq]; rfl
          rw [hl]
          exact ih (j + 1) a2 tk'' A' (by omega) hC1 (ps_Kp_y hGt hK q1 q2) q3
theorem xx_ft13 {post : SX → Prop} {n : Nat} {ln : Nat → Nat} {rl : Nat → Nat → Nat} (h0 : 0 < n) (hn : n ≤ 5) (hr : ps_Ru c ln rl ra le) (hc : c ≤ 4) (K : ∀ a' tk', ps_Ar tk' 0 (ps_TL n (ps_G n c ln rl)) → post (nI L, nI c, nI (ps_TL n (ps_G n c ln rl)).length, w, ra, le, a', tk', nn, mp, fs, ss)) : ∀ d i a' tk' A, i + d = ps_fa n → ps_Kp (ps_eX n) (ps_G n c ln rl) (fun K => K) (i * ps_fa n) A → ps_Ar tk' 0 A → wX_findTables_13 post (nI n) (nI (ps_fa n)) (d + 1) (nI i) (nI L) (nI c) (nI A.length) w ra le a' tk' nn mp fs ss := by
  have hfa := ev_fa hn
  intro d
  induction d with
  | zero =>
    intro i a' tk' A hi hK hA
    obtain rfl : i = ps_fa n := by omega
    have e := ps_KpX hK
    subst e
    exact br_t (nI_le (by omega) (by omega)) (K a' tk' hA)
  | succ d ih =>
    intro i a' tk' A hi hK hA
    exact br_f (nI_ge (by omega) (by omega)) (xx_setG (o := 0) h0 hn (Or.inl rfl) (by omega) (fun a2 hC _ => ⟨ps_fa n + 1, xx_ft28 h0 hn hr hc (by omega) (fun a' tk' A h1 h2 => ih (i + 1) a' tk' A (by omega) h1 h2) (ps_fa n) 0 a2 tk' A (by omega) hC hK hA⟩))
theorem xx_find {post : SX → Prop} {n : Nat} {ln : Nat → Nat} {rl : Nat → Nat → Nat} (h0 : 0 < n) (hn : n ≤ 5) (hr : ps_Ru c ln rl ra le) (hc : c ≤ 4) (K : ∀ a' tk', ps_Ar tk' 0 (ps_TL n (ps_G n c ln rl)) → post (nI L, nI c, nI (ps_TL n (ps_G n c ln rl)).length, w, ra, le, a', tk', nn, mp, fs, ss)) : wpX_findTables post (nI L, nI c, tc, w, ra, le, im, tk, nn, mp, fs, ss) (nI n) := by
  unfold wpX_findTables
  dsimp only
  exact xx_perm h0 hn ⟨ps_fa n + 1, xx_ft13 h0 hn hr hc K (ps_fa n) 0 im tk [] (by omega) (by rw [Nat.zero_mul]; exact ps_Kp_0 _ _ _) (fun i hi => absurd hi (Nat.not_lt_zero i))⟩
end
