/-! the reference: keep, work -/
def yy_WI (n c : Nat) (ln : Nat → Nat) (rl : Nat → Nat → Nat) (an0 tb0 : Nat → Int32) (ks0 : Nat → Int64) (t : Nat) (an tb : Nat → Int32) (ks : Nat → Int64) (A : List Nat) : Prop :=
  ps_Kp (ps_eY n) (ps_G n c ln rl) (ps_cv (4 * n)) t A ∧ ps_Ar ks (461 * n) A ∧ an n = nI (((List.range t).map (ps_eY n)).countP (ps_H n c ln rl)) ∧ tb n = nI A.length ∧ (∀ m, m ≠ n → an m = an0 m ∧ tb m = tb0 m) ∧ (∀ j, ¬ (461 * n ≤ j ∧ j < 461 * n + 461) → ks j = ks0 j)
theorem ps_eY_mem {n t : Nat} (h0 : 0 < n) (hn : n ≤ 5) (ht : t < (ps_cY n).length * (ps_cY n).length) : ps_eY n t ∈ ps_XL n :=
  (ps_XY (ev_perm h0 hn)).mem_iff.mpr (List.mem_map.mpr ⟨t, List.mem_range.mpr ht, rfl⟩)
section
variable {L c : Nat} {mn : Int32} {w le ra fi se pm im ot od pl kn an tb : Nat → Int32} {ks : Nat → Int64}
variable {ln : Nat → Nat} {rl : Nat → Nat → Nat}
theorem yy_kp67 {post : SY → Prop} {n K T m : Nat} {A B : List Nat} {ks' ks0 : Nat → Int64} (hn : n ≤ 5) (hT : A.length + B.length = T) (hT4 : T < 461) (hm : A.length = m) (htb : tb n = nI T) (hS : ps_Sp ks' (461 * n) A B) (hs : (A ++ B).Pairwise (· ≤ ·)) (hA : ∀ a, a ∈ A → a ≤ K) (hB : ∀ b, b ∈ B → K ≤ b) (hO : ∀ j, ¬ (461 * n ≤ j ∧ j < 461 * n + 461) → ks' j = ks0 j) (KK : ∀ ks'' L', L'.Pairwise (· ≤ ·) → L'.Perm (K :: (A ++ B)) → ps_Ar ks'' (461 * n) L' → (∀ j, ¬ (461 * n ≤ j ∧ j < 461 * n + 461) → ks'' j = ks0 j) → post (nI L, nI c, mn, w, le, ra, fi, se, pm, im, ot, od, pl, kn, an, upd tb n (nI (T + 1)), ks'')) : wY_keep_67 post (nI n) (lN K) (nI m) (nI L) (nI c) mn w le ra fi se pm im ot od pl kn an tb ks' := by
  have hE := ps_Sp_end (K := K) hS
  rw [hm] at hE
  have vn : vp_in (nI n) 6 := vp_in_nI (by omega) (by decide)
  refine ⟨pk_in (461 * n + m) 2766 (by omega) (ps_46x n m), nm_r (e' := vp_updL ks' (461 * n + m) (lN K)) (ps_wrL (ps_46x n m) (by omega) rfl) ⟨vn, ⟨vn, nm_r (e' := upd tb n (nI (T + 1))) (ps_wr rfl (by omega) (by rw [ps_rd rfl (by omega) htb, nI_1])) (KK _ _ (ps_srt hs hA hB) List.perm_middle hE (fun j hj => ?_))⟩⟩⟩
  rw [pk_uLn (by omega)]
  exact hO j hj
theorem yy_kp8 {post : SY → Prop} {n K T : Nat} {ks0 : Nat → Int64} (hn : n ≤ 5) (hK : K < 2 ^ 63) (hT4 : T < 461) (htb : tb n = nI T) : ∀ m (A B : List Nat) ks', A.length = m → A.length + B.length = T → (∀ a, a ∈ A → a < 2 ^ 63) → ps_Sp ks' (461 * n) A B → (A ++ B).Pairwise (· ≤ ·) → (∀ b, b ∈ B → K ≤ b) → (∀ j, ¬ (461 * n ≤ j ∧ j < 461 * n + 461) → ks' j = ks0 j) → (∀ ks'' L', L'.Pairwise (· ≤ ·) → L'.Perm (K :: (A ++ B)) → ps_Ar ks'' (461 * n) L' → (∀ j, ¬ (461 * n ≤ j ∧ j < 461 * n + 461) → ks'' j = ks0 j) → post (nI L, nI c, mn, w, le, ra, fi, se, pm, im, ot, od, pl, kn, an, upd tb n (nI (T + 1)), ks'')) → wY_keep_8 post (nI n) (lN K) (nI L) (nI c) mn (m + 1) (nI m) w le ra fi se pm im ot od pl kn an tb ks' := by
  intro m
  induction m with
  | zero =>
    intro A B ks' hm hT hb hS hs hB hO KK
    have hA : A = [] := List.eq_nil_of_length_eq_zero hm
    exact br_t (by decide) (yy_kp67 hn hT hT4 hm htb hS hs (fun a ha => by rw [hA] at ha; exact absurd ha List.not_mem_nil) hB hO KK)
  | succ m ih =>
    intro A B ks' hm hT hb hS hs hB hO KK
    obtain ⟨A', x, rfl, hm'⟩ := ps_snoc hm
    have hx : x < 2 ^ 63 := hb x (List.mem_append.mpr (Or.inr (List.mem_singleton.mpr rfl)))
    have e0 : (461 * nI n) + nI (m + 1) = nI (461 * n + (m + 1)) := ps_46x n (m + 1)
    have e1 : ((461 * nI n) + nI (m + 1)) - 1 = nI (461 * n + m) := by rw [e0]; exact nI_pred (461 * n + m)
    have ec : ks' (((461 * nI n) + nI (m + 1)) - 1).toNatClampNeg = lN x := by
      refine ps_rdL e1 (by omega) ?_
      have h := hS.1 m (by omega)
      rw [h, ← hm']
      have g := ps_gB (A := A') (B := [x]) (i := 0) (d := 0)
      rw [Nat.add_zero] at g
      rw [g]
      rfl
    have v1 : vp_in (((461 * nI n) + nI (m + 1)) - 1) 2766 := pk_in (461 * n + m) 2766 (by omega) e1
    refine br_f (nI_nle (by omega) (by omega)) ⟨v1, ?_⟩
    by_cases z : x ≤ K
    · exact br_t (by rw [ec]; exact (pk_lLE hx hK).mpr z) (yy_kp67 hn hT hT4 hm htb hS hs (ps_srt_last hs z) hB hO KK)
    · refine br_f (by rw [ec, pk_lLE hx hK]; exact z) ⟨v1, ⟨pk_in (461 * n + (m + 1)) 2766 (by omega) e0, nm_r (e' := vp_updL ks' (461 * n + A'.length + 1) (ks' (461 * n + A'.length))) ?_ (nm_r (pk_m1 m) (ih A' (x :: B) _ hm' (by simp at hT ⊢; omega) (fun a ha => hb a (List.mem_append.mpr (Or.inl ha))) (ps_Sp_mv hS) (by simpa using hs) ?_ ?_ (fun ks'' L' q1 q2 q3 q4 => KK ks'' L' q1 (by simpa using q2) q3 q4)))⟩⟩
      · rw [hm', e1, e0, nI_clamp (by omega), nI_clamp (by omega)]
        rfl
      · intro b hb'
        rcases List.mem_cons.mp hb' with rfl | hb'
        · omega
        · exact hB b hb'
      · intro j hj
        rw [pk_uLn (by omega)]
        exact hO j hj
theorem yy_keep {post : SY → Prop} {n K : Nat} {A : List Nat} {ks0 : Nat → Int64} (hn : n ≤ 5) (hK : K < 2 ^ 63) (hT4 : A.length < 461) (htb : tb n = nI A.length) (hb : ∀ a, a ∈ A → a < 2 ^ 63) (hA : ps_Ar ks (461 * n) A) (hs : A.Pairwise (· ≤ ·)) (hO : ∀ j, ¬ (461 * n ≤ j ∧ j < 461 * n + 461) → ks j = ks0 j) (KK : ∀ ks'' L', L'.Pairwise (· ≤ ·) → L'.Perm (K :: A) → ps_Ar ks'' (461 * n) L' → (∀ j, ¬ (461 * n ≤ j ∧ j < 461 * n + 461) → ks'' j = ks0 j) → post (nI L, nI c, mn, w, le, ra, fi, se, pm, im, ot, od, pl, kn, an, upd tb n (nI (A.length + 1)), ks'')) : wpY_keep post (nI L, nI c, mn, w, le, ra, fi, se, pm, im, ot, od, pl, kn, an, tb, ks) (nI n) (lN K) :=
  ⟨vp_in_nI (by omega) (by decide), nm_r (e' := nI A.length) (ps_rd rfl (by omega) htb) ⟨A.length + 1, yy_kp8 hn hK hT4 htb A.length A [] ks rfl rfl hb ⟨hA, fun i hi => absurd hi (Nat.not_lt_zero i)⟩ (by simpa using hs) (fun b hb => absurd hb List.not_mem_nil) hO (fun ks'' L' q1 q2 q3 q4 => KK ks'' L' q1 (by simpa using q2) q3 q4)⟩⟩
theorem yy_w55 {post : SY → Prop} {J : Int32 → Int32 → Int32 → Int32 → (Nat → Int32) → (Nat → Int32) → (Nat → Int32) → (Nat → Int32) → (Nat → Int32) → (Nat → Int32) → (Nat → Int32) → (Nat → Int32) → (Nat → Int32) → (Nat → Int32) → (Nat → Int32) → (Nat → Int32) → (Nat → Int32) → (Nat → Int64) → Prop} {n i : Nat} {an0 tb0 : Nat → Int32} {ks0 : Nat → Int64} (h0 : 0 < n) (hn : n ≤ 5) (hr : ps_Ru c ln rl ra le) (hc : c ≤ 4) (hi : i < (ps_cY n).length) (hpm : ps_PA pm n (ps_cY n)) (KJ : ∀ im' an' tb' ks' A, yy_WI n c ln rl an0 tb0 ks0 ((i + 1) * (ps_cY n).length) an' tb' ks' A → J (nI (i + 1)) (nI L) (nI c) (nI (ps_cY n).length) w le ra fi se pm im' ot od pl kn an' tb' ks') : ∀ d j im' an' tb' ks' A, j + d = (ps_cY n).length → ps_Rw im' n 0 ((ps_cY n).getD i []) → yy_WI n c ln rl an0 tb0 ks0 (i * (ps_cY n).length + j) an' tb' ks' A → wY_work_55 post J (nI n) (nI i) (d + 1) (nI j) (nI L) (nI c) (nI (ps_cY n).length) w le ra fi se pm im' ot od pl kn an' tb' ks' := by
  have hfa := ev_fa hn
  have hyl := ev_cYl h0 hn
  have vn : vp_in (nI n) 6 := vp_in_nI (by omega) (by decide)
  intro d
  induction d with
  | zero =>
    intro j im' an' tb' ks' A hj hR hW
    obtain rfl : j = (ps_cY n).length := by omega
    rw [← Nat.succ_mul] at hW
    exact br_t (nI_le (by omega) (by omega)) (nm_r (nI_1 i) (KJ im' an' tb' ks' A hW))
  | succ d ih =>
    intro j im' an' tb' ks' A hj hR hW
    have hjN : j < (ps_cY n).length := by omega
    have ht : i * (ps_cY n).length + j < (ps_cY n).length * (ps_cY n).length := by
      have h1 : (i + 1) * (ps_cY n).length ≤ (ps_cY n).length * (ps_cY n).length := Nat.mul_le_mul_right _ hi
      rw [Nat.succ_mul] at h1
      omega
    have eK := ps_eY_eq (n := n) (i := i) hjN
    have hF := ev_XLFa h0 hn (ps_eY_mem h0 hn ht)
    have hG0 := ps_ac_Gd (ev_yl h0 hn hi) (ev_yl h0 hn hjN)
    obtain ⟨w1, w2, w3, w4, w5, w6⟩ := hW
    refine br_f (nI_ge hjN (by omega)) (yy_take (o := 2) (f := (ps_cY n).getD j []) hn (Or.inr rfl) (by omega) (ev_yl h0 hn hjN) (fun p hp => hpm j hjN p hp) (fun im2 hR2 hO => ?_))
    have hR1 : ps_Rw im2 n 0 ((ps_cY n).getD i []) := fun p hp => by
      rw [hO _ (by omega), hO _ (by omega)]
      exact hR p hp
    have hI0 := ps_Rw_YI hR1 hR2
    have hI : ps_YI im2 n (ps_gk n (ps_eY n (i * (ps_cY n).length + j))) := ps_YI_c hI0 (fun l hl p hp => by rw [eK]; exact ps_gk_ky hn hG0 l p hl hp)
    refine yy_holds hn hI hF.1 hr hc ?_
    cases hH : ps_hb n c ln rl (ps_gk n (ps_eY n (i * (ps_cY n).length + j))) with
    | false =>
      have hGf : ¬ ps_G n c ln rl (ps_eY n (i * (ps_cY n).length + j)) = true := by
        rw [ps_G, hH, Bool.and_false]
        decide
      refine br_t rfl (nm_r (nI_1 j) (ih (j + 1) im2 an' tb' ks' A (by omega) hR1 ⟨ps_Kp_n hGf w1, w2, ?_, w4, w5, w6⟩))
      rw [← Nat.add_assoc, ps_ct_f (e := ps_eY n) (H := ps_H n c ln rl) hH]
      exact w3
    | true =>
      have ea : an' (nI n).toNatClampNeg + 1 = nI (((List.range (i * (ps_cY n).length + j + 1)).map (ps_eY n)).countP (ps_H n c ln rl)) := by
        rw [ps_ct_t (e := ps_eY n) (H := ps_H n c ln rl) hH, ps_rd rfl (by omega) w3, nI_1]
      refine br_f (by decide) ⟨vn, ⟨vn, nm_r (e' := upd an' n (nI (((List.range (i * (ps_cY n).length + j + 1)).map (ps_eY n)).countP (ps_H n c ln rl)))) (ps_wr rfl (by omega) ea) (yy_key hn hI0 hG0 ?_)⟩⟩
      rw [← eK]
      refine yy_isT h0 hn hI hF.1 ?_
      cases hT : ps_isT n (ps_gk n (ps_eY n (i * (ps_cY n).length + j))) with
      | false =>
        have hGf : ¬ ps_G n c ln rl (ps_eY n (i * (ps_cY n).length + j)) = true := by
          rw [ps_G, hT, Bool.false_and]
          decide
        exact br_t rfl (nm_r (nI_1 j) (ih (j + 1) im2 _ tb' ks' A (by omega) hR1 ⟨ps_Kp_n hGf w1, w2, pk_us, w4, fun m hm => ⟨(pk_un hm).trans (w5 m hm).1, (w5 m hm).2⟩, w6⟩))
      | true =>
        have hGt : ps_G n c ln rl (ps_eY n (i * (ps_cY n).length + j)) = true := by rw [ps_G, hT, hH]; rfl
        refine br_f (by decide) (yy_keep (ks0 := ks0) hn (Nat.lt_trans (ps_K5 hn hF.2.2) (by decide)) (ps_Kp_room (M := (ps_cY n).length * (ps_cY n).length) (fun K h => ps_G_T K h) ht (ps_cntY h0 hn) w1 hGt) w4 (fun a ha => ?_) w2 w1.1 w6 (fun ks'' A' q1 q2 q3 q4 => nm_r (nI_1 j) (ih (j + 1) im2 _ _ ks'' A' (by omega) hR1 ⟨ps_Kp_y hGt w1 q1 q2, q3, pk_us, ?_, fun m hm => ⟨(pk_un hm).trans (w5 m hm).1, (pk_un hm).trans (w5 m hm).2⟩, q4⟩)))
        · obtain ⟨s, hs, rfl⟩ := ps_Kp_mem w1 ha
          exact Nat.lt_trans (ps_K5 hn (ev_XLFa h0 hn (ps_eY_mem h0 hn (by omega))).2.2) (by decide)
        · have hl : A'.length = A.length + 1 := by rw [q2.length_eq]; rfl
          rw [pk_us, hl]
theorem yy_w38 {post : SY → Prop} {n : Nat} {an0 tb0 : Nat → Int32} {ks0 : Nat → Int64} (h0 : 0 < n) (hn : n ≤ 5) (hr : ps_Ru c ln rl ra le) (hc : c ≤ 4) (hpm : ps_PA pm n (ps_cY n)) (K : ∀ im' an' tb' ks' A, yy_WI n c ln rl an0 tb0 ks0 ((ps_cY n).length * (ps_cY n).length) an' tb' ks' A → post (nI L, nI c, nI (ps_cY n).length, w, le, ra, fi, se, pm, im', ot, od, pl, kn, an', tb', ks')) : ∀ d i im' an' tb' ks' A, i + d = (ps_cY n).length → yy_WI n c ln rl an0 tb0 ks0 (i * (ps_cY n).length) an' tb' ks' A → wY_work_38 post (nI n) (d + 1) (nI i) (nI L) (nI c) (nI (ps_cY n).length) w le ra fi se pm im' ot od pl kn an' tb' ks' := by
  have hfa := ev_fa hn
  have hyl := ev_cYl h0 hn
  intro d
  induction d with
  | zero =>
    intro i im' an' tb' ks' A hi hW
    obtain rfl : i = (ps_cY n).length := by omega
    exact br_t (nI_le (by omega) (by omega)) (K im' an' tb' ks' A hW)
  | succ d ih =>
    intro i im' an' tb' ks' A hi hW
    have hiN : i < (ps_cY n).length := by omega
    exact br_f (nI_ge hiN (by omega)) (yy_take (o := 0) (f := (ps_cY n).getD i []) hn (Or.inl rfl) (by omega) (ev_yl h0 hn hiN) (fun p hp => hpm i hiN p hp) (fun im2 hR _ => ⟨(ps_cY n).length + 1, yy_w55 h0 hn hr hc hiN hpm (fun im' an' tb' ks' A hW => ih (i + 1) im' an' tb' ks' A (by omega) hW) (ps_cY n).length 0 im2 an' tb' ks' A (by omega) hR hW⟩))
theorem yy_work {post : SY → Prop} {n : Nat} (h0 : 0 < n) (hn : n ≤ 5) (hr : ps_Ru c ln rl ra le) (hc : c ≤ 4) (hY : ps_YC c ln rl kn an tb ks) (K : ∀ mn' pm' im' kn' an' tb' ks', ps_YC c ln rl kn' an' tb' ks' → ¬ kn' n = 0 → post (nI L, nI c, mn', w, le, ra, fi, se, pm', im', ot, od, pl, kn', an', tb', ks')) : wpY_work post (nI L, nI c, mn, w, le, ra, fi, se, pm, im, ot, od, pl, kn, an, tb, ks) (nI n) := by
  have vn : vp_in (nI n) 6 := vp_in_nI (by omega) (by decide)
  have ek : kn (nI n).toNatClampNeg = kn n := ps_rd rfl (by omega) rfl
  refine ⟨vn, ?_⟩
  rw [ek]
  by_cases z : kn n = 0
  · refine br_t z ⟨vn, nm_r (e' := upd kn n 1) (ps_wr rfl (by omega) ps_nar1) ⟨vn, nm_r (e' := upd an n 0) (ps_wr rfl (by omega) rfl) ⟨vn, nm_r (e' := upd tb n 0) (ps_wr rfl (by omega) rfl) (yy_lperm h0 hn (fun pm' hpm => ⟨(ps_cY n).length + 1, yy_w38 (an0 := an) (tb0 := tb) (ks0 := ks) h0 hn hr hc hpm (fun im' an' tb' ks' A hW => K _ _ _ _ _ _ _ ?_ ?_) (ps_cY n).length 0 im _ _ ks [] (by omega) ?_⟩))⟩⟩⟩
    · obtain ⟨w1, w2, w3, w4, w5, w6⟩ := hW
      have eA := ps_KpY h0 hn w1
      intro m hm0 hm5
      by_cases e : m = n
      · subst e
        refine Or.inr ⟨pk_us, ?_, ?_, ?_⟩
        · rw [w3]
          exact congrArg nI ((ps_XY (ev_perm hm0 hm5)).countP_eq (ps_H m c ln rl)).symm
        · rw [w4, eA, List.length_map]
        · rw [← eA]
          exact w2
      · rw [pk_un e, (w5 m e).1, (w5 m e).2]
        rcases hY m hm0 hm5 with h | ⟨g1, g2, g3, g4⟩
        · exact Or.inl h
        · refine Or.inr ⟨g1, g2, g3, fun i hi => ?_⟩
          have hl := ps_TL_len (c := c) (ln := ln) (rl := rl) hm0 hm5
          rw [List.length_map] at hi
          rw [w6 _ (by omega)]
          exact g4 i (by rw [List.length_map]; exact hi)
    · rw [pk_us]
      decide
    · rw [Nat.zero_mul]
      exact ⟨ps_Kp_0 _ _ _, fun i hi => absurd hi (Nat.not_lt_zero i), pk_us, pk_us, fun m hm => ⟨pk_un hm, pk_un hm⟩, fun _ _ => rfl⟩
  · exact br_f z (K _ _ _ _ _ _ _ hY z)
end
