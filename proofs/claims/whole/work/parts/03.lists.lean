/-! lists of permutations, of pairs, sorted keys; pigeons; counts -/
def ps_sw (f : Nat → Nat) (p q : Nat) : Nat → Nat := ps_up (ps_up f p (f q)) q (f p)
def ps_xf : Nat → Nat → (Nat → Nat) → (Nat → Nat)
  | 0, _, f => f
  | p + 1, rest, f => ps_xf p (rest / (p + 2)) (ps_sw f (p + 1) (rest % (p + 2)))
def ps_xl (n code : Nat) : List Nat := (List.range n).map (ps_xf (n - 1) code (fun p => p))
def ps_fa : Nat → Nat
  | 0 => 1
  | n + 1 => (n + 1) * ps_fa n
def ps_cX (n : Nat) : List (List Nat) := (List.range (ps_fa n)).map (ps_xl n)
def ps_dl (n code : Nat) : List Nat := (List.range n).map (fun i => code / n ^ i % n)
def ps_mk (n code : Nat) : Nat → Nat
  | 0 => 0
  | i + 1 => ps_mk n code i ||| 2 ^ (code / n ^ i % n)
def ps_fu (n code : Nat) : Bool := decide (ps_mk n code n = 2 ^ n - 1)
def ps_cY (n : Nat) : List (List Nat) := ((List.range (n ^ n)).filter (ps_fu n)).map (ps_dl n)
def ps_eX (n t : Nat) : Nat := ps_A n (ps_xl n (t / ps_fa n)) + ps_B n (ps_xl n (t % ps_fa n))
def ps_eY (n t : Nat) : Nat := ps_A n ((ps_cY n).getD (t / (ps_cY n).length) []) + ps_B n ((ps_cY n).getD (t % (ps_cY n).length) [])
def ps_XL (n : Nat) : List Nat := (List.range (ps_fa n * ps_fa n)).map (ps_eX n)
def ps_YL (n : Nat) : List Nat := (List.range ((ps_cY n).length * (ps_cY n).length)).map (ps_eY n)
theorem ps_fl {α : Type} (N : Nat) (k : Nat → Nat → α) : ∀ M, (List.range (M * N)).map (fun t => k (t / N) (t % N)) = (List.range M).flatMap (fun i => (List.range N).map (k i))
  | 0 => by simp
  | M + 1 => by
    rw [Nat.succ_mul, List.range_add, List.map_append, ps_fl N k M, List.range_succ, List.flatMap_append, List.flatMap_singleton, List.map_map]
    congr 1
    apply List.map_congr_left
    intro t ht
    have h := List.mem_range.mp ht
    show k ((M * N + t) / N) ((M * N + t) % N) = k M t
    rw [Nat.mul_comm M N, Nat.mul_add_div (by omega), Nat.mul_add_mod, Nat.div_eq_of_lt h, Nat.mod_eq_of_lt h, Nat.add_zero]
theorem ps_rg {α : Type} (L : List α) (d : α) : (List.range L.length).map (fun i => L.getD i d) = L := by
  apply List.ext_getElem
  · simp
  · intro i h1 h2
    rw [List.getElem_map, List.getElem_range, List.getD_eq_getElem?_getD, List.getElem?_eq_getElem h2]
    rfl
def ps_pp (n : Nat) (L : List (List Nat)) : List Nat := (L.map (ps_A n)).flatMap (fun a => (L.map (ps_B n)).map (fun b => a + b))
theorem ps_XL_pp (n : Nat) : ps_XL n = ps_pp n (ps_cX n) := by
  have h := ps_fl (ps_fa n) (fun i j => ps_A n (ps_xl n i) + ps_B n (ps_xl n j)) (ps_fa n)
  rw [ps_pp, ps_cX, List.map_map, List.map_map, List.flatMap_map]
  simp only [List.map_map]
  exact h
theorem ps_YL_pp (n : Nat) : ps_YL n = ps_pp n (ps_cY n) := by
  have h := ps_fl (ps_cY n).length (fun i j => ps_A n ((ps_cY n).getD i []) + ps_B n ((ps_cY n).getD j [])) (ps_cY n).length
  have e := ps_rg (ps_cY n) []
  have e2 : ps_pp n (ps_cY n) = ps_pp n ((List.range (ps_cY n).length).map (fun i => (ps_cY n).getD i [])) := by rw [e]
  rw [e2, ps_pp, List.map_map, List.map_map, List.flatMap_map]
  simp only [List.map_map]
  exact h
theorem ps_fp {α β : Type} {f g : α → List β} : ∀ l : List α, (∀ a, (f a).Perm (g a)) → (l.flatMap f).Perm (l.flatMap g)
  | [], _ => List.Perm.refl _
  | a :: l, h => by
    rw [List.flatMap_cons, List.flatMap_cons]
    exact (h a).append (ps_fp l h)
theorem ps_XY {n : Nat} (h : (ps_cX n).Perm (ps_cY n)) : (ps_XL n).Perm (ps_YL n) := by
  rw [ps_XL_pp, ps_YL_pp, ps_pp, ps_pp]
  exact ((h.map (ps_A n)).flatMap_right _).trans (ps_fp _ (fun a => (h.map (ps_B n)).map _))
theorem ps_pp_mem {n : Nat} {L : List (List Nat)} {K : Nat} (h : K ∈ ps_pp n L) : ∃ f g, f ∈ L ∧ g ∈ L ∧ K = ps_ky n (ps_ac n f g) := by
  rw [ps_pp, List.mem_flatMap] at h
  obtain ⟨a, ha, hb⟩ := h
  obtain ⟨f, hf, rfl⟩ := List.mem_map.mp ha
  obtain ⟨b, hb2, rfl⟩ := List.mem_map.mp hb
  obtain ⟨g, hg, rfl⟩ := List.mem_map.mp hb2
  exact ⟨f, g, hf, hg, (ps_AB n f g).symm⟩
/-- what is known of a key of a pair -/
def ps_Fa (n K : Nat) : Prop := ps_Gd n (ps_gk n K) ∧ ps_In n (ps_gk n K) ∧ ps_D5 (4 * n) K
theorem ps_Fa_of {n : Nat} (hn : n ≤ 5) {f g : List Nat} (hf : ps_Pm n f = true) (hg : ps_Pm n g = true) : ps_Fa n (ps_ky n (ps_ac n f g)) := by
  have G := ps_ac_Gd hf hg
  have e := fun l p hl hp => ps_gk_ky hn G l p hl hp
  refine ⟨?_, ?_, ?_⟩
  · intro l hl p hp
    rw [e l p hl hp]
    exact G l hl p hp
  · intro l hl p hp q hq
    rw [e l p hl hp, e l q hl hq]
    exact ps_ac_In hf hg l hl p hp q hq
  · exact ps_D5_kf (4 * n) (fun i hi => Nat.lt_of_lt_of_le (ps_dg_lt G i hi) hn)
theorem ps_gA {α : Type} {A B : List α} {i : Nat} {d : α} (h : i < A.length) : (A ++ B).getD i d = A.getD i d := by
  rw [List.getD_eq_getElem?_getD, List.getD_eq_getElem?_getD, List.getElem?_append_left h]
theorem ps_gB {α : Type} {A B : List α} {i : Nat} {d : α} : (A ++ B).getD (A.length + i) d = B.getD i d := by
  rw [List.getD_eq_getElem?_getD, List.getD_eq_getElem?_getD, List.getElem?_append_right (by omega), Nat.add_sub_cancel_left]
theorem ps_gM {α β : Type} {L : List α} {f : α → β} {i : Nat} {d : α} {d' : β} (h : i < L.length) : (L.map f).getD i d' = f (L.getD i d) := by
  rw [List.getD_eq_getElem?_getD, List.getD_eq_getElem?_getD, List.getElem?_map, List.getElem?_eq_getElem h]
  rfl
theorem ps_gIn {α : Type} {L : List α} {i : Nat} {d : α} (h : i < L.length) : L.getD i d ∈ L := by
  rw [List.getD_eq_getElem?_getD, List.getElem?_eq_getElem h]
  exact List.getElem_mem h
theorem ps_gR {α : Type} {n i : Nat} {f : Nat → α} {d : α} (h : i < n) : ((List.range n).map f).getD i d = f i := by
  rw [ps_gM (d := 0) (by simpa using h), List.getD_eq_getElem?_getD, List.getElem?_eq_getElem (by simpa using h), List.getElem_range]
  rfl
theorem ps_eX_eq {n i j : Nat} (hj : j < ps_fa n) : ps_eX n (i * ps_fa n + j) = ps_ky n (ps_ac n (ps_xl n i) (ps_xl n j)) := by
  rw [ps_AB, ps_eX, Nat.mul_comm i, Nat.mul_add_div (by omega), Nat.mul_add_mod, Nat.div_eq_of_lt hj, Nat.mod_eq_of_lt hj, Nat.add_zero]
theorem ps_eY_eq {n i j : Nat} (hj : j < (ps_cY n).length) : ps_eY n (i * (ps_cY n).length + j) = ps_ky n (ps_ac n ((ps_cY n).getD i []) ((ps_cY n).getD j [])) := by
  rw [ps_AB, ps_eY, Nat.mul_comm i, Nat.mul_add_div (by omega), Nat.mul_add_mod, Nat.div_eq_of_lt hj, Nat.mod_eq_of_lt hj, Nat.add_zero]
/-- arrays of long keys -/
def ps_Ar (a : Nat → Int64) (o : Nat) (L : List Nat) : Prop := ∀ i, i < L.length → a (o + i) = lN (L.getD i 0)
def ps_Sp (a : Nat → Int64) (o : Nat) (A B : List Nat) : Prop := (∀ i, i < A.length → a (o + i) = lN (A.getD i 0)) ∧ (∀ i, i < B.length → a (o + A.length + 1 + i) = lN (B.getD i 0))
theorem ps_Sp_mv {a : Nat → Int64} {o x : Nat} {A B : List Nat} (h : ps_Sp a o (A ++ [x]) B) : ps_Sp (vp_updL a (o + A.length + 1) (a (o + A.length))) o A (x :: B) := by
  constructor
  · intro i hi
    rw [pk_uLn (by omega), h.1 i (by simp; omega), ps_gA hi]
  · intro i hi
    cases i with
    | zero =>
      rw [Nat.add_zero, pk_uLs, h.1 A.length (by simp)]
      have := ps_gB (A := A) (B := [x]) (i := 0) (d := 0)
      rw [Nat.add_zero] at this
      rw [this]
      rfl
    | succ i =>
      rw [pk_uLn (by omega)]
      have h2 := h.2 i (by simpa using hi)
      rw [List.length_append, List.length_singleton] at h2
      rw [show o + A.length + 1 + (i + 1) = o + (A.length + 1) + 1 + i by omega, h2]
      rfl
theorem ps_Sp_end {a : Nat → Int64} {o K : Nat} {A B : List Nat} (h : ps_Sp a o A B) : ps_Ar (vp_updL a (o + A.length) (lN K)) o (A ++ K :: B) := by
  intro i hi
  by_cases h1 : i < A.length
  · rw [pk_uLn (by omega), h.1 i h1, ps_gA h1]
  · obtain ⟨j, rfl⟩ : ∃ j, i = A.length + j := ⟨i - A.length, by omega⟩
    rw [ps_gB]
    cases j with
    | zero => rw [Nat.add_zero, pk_uLs]; rfl
    | succ j =>
      rw [pk_uLn (by omega), show o + (A.length + (j + 1)) = o + A.length + 1 + j by omega, h.2 j (by simp at hi; omega)]
      rfl
theorem ps_srt {A B : List Nat} {K : Nat} (h : (A ++ B).Pairwise (· ≤ ·)) (hA : ∀ a, a ∈ A → a ≤ K) (hB : ∀ b, b ∈ B → K ≤ b) : (A ++ K :: B).Pairwise (· ≤ ·) := by
  rw [List.pairwise_append] at h ⊢
  refine ⟨h.1, List.pairwise_cons.mpr ⟨hB, h.2.1⟩, ?_⟩
  intro a ha b hb
  rcases List.mem_cons.mp hb with rfl | hb
  · exact hA a ha
  · exact h.2.2 a ha b hb
theorem ps_srt_last {A B : List Nat} {x K : Nat} (h : ((A ++ [x]) ++ B).Pairwise (· ≤ ·)) (hx : x ≤ K) : ∀ a, a ∈ A ++ [x] → a ≤ K := by
  intro a ha
  rw [List.pairwise_append, List.pairwise_append] at h
  rcases List.mem_append.mp ha with ha | ha
  · exact Nat.le_trans (h.1.2.2 a ha x (List.mem_singleton.mpr rfl)) hx
  · rw [List.mem_singleton.mp ha]
    exact hx
/-- the sorted list of kept keys -/
def ps_TL (n : Nat) (G : Nat → Bool) : List Nat := ((ps_XL n).filter G).mergeSort (fun a b => decide (a ≤ b))
theorem ps_TL_perm (n : Nat) (G : Nat → Bool) : (ps_TL n G).Perm ((ps_XL n).filter G) := List.mergeSort_perm _ _
theorem ps_TL_srt (n : Nat) (G : Nat → Bool) : (ps_TL n G).Pairwise (· ≤ ·) := by
  have h := List.pairwise_mergeSort (le := fun a b : Nat => decide (a ≤ b)) (fun a b c h1 h2 => decide_eq_true (Nat.le_trans (of_decide_eq_true h1) (of_decide_eq_true h2))) (fun a b => by
    rcases Nat.le_total a b with h | h
    · simp [h]
    · simp [h]) ((ps_XL n).filter G)
  exact h.imp (fun h => of_decide_eq_true h)
theorem ps_TL_mem {n K : Nat} {G : Nat → Bool} (h : K ∈ ps_TL n G) : K ∈ ps_XL n ∧ G K = true := List.mem_filter.mp ((ps_TL_perm n G).mem_iff.mp h)
theorem ps_TL_X {n : Nat} {G : Nat → Bool} {L : List Nat} (hs : L.Pairwise (· ≤ ·)) (hp : L.Perm ((ps_XL n).filter G)) : L = ps_TL n G :=
  List.Perm.eq_of_pairwise (fun _ _ _ _ h1 h2 => Nat.le_antisymm h1 h2) hs (ps_TL_srt n G) (hp.trans (ps_TL_perm n G).symm)
theorem ps_TL_Y {n : Nat} {G : Nat → Bool} {L : List Nat} (hD : ∀ K, K ∈ ps_XL n → ps_D5 (4 * n) K) (hXY : (ps_XL n).Perm (ps_YL n)) (hs : L.Pairwise (· ≤ ·)) (hp : L.Perm (((ps_YL n).filter G).map (ps_cv (4 * n)))) : L = (ps_TL n G).map (ps_cv (4 * n)) := by
  refine List.Perm.eq_of_pairwise (le := fun a b : Nat => a ≤ b) (fun _ _ _ _ h1 h2 => Nat.le_antisymm h1 h2) hs ?_ (hp.trans ?_)
  · rw [List.pairwise_map]
    refine List.Pairwise.imp_of_mem ?_ (ps_TL_srt n G)
    intro a b ha hb hab
    have := ps_cv_lt (4 * n) b a (hD b (ps_TL_mem hb).1) (hD a (ps_TL_mem ha).1)
    omega
  · exact (((hXY.filter G).symm).trans (ps_TL_perm n G).symm).map _
theorem ps_pre_s {α : Type} (e : Nat → α) (t : Nat) : (List.range (t + 1)).map e = (List.range t).map e ++ [e t] := by
  rw [List.range_succ, List.map_append]
  rfl
theorem ps_pre_le {e : Nat → Nat} {G H : Nat → Bool} (hGH : ∀ K, G K = true → H K = true) {t M b : Nat} (ht : t ≤ M) (hb : ((List.range M).map e).countP H ≤ b) : (((List.range t).map e).filter G).length ≤ b := by
  rw [← List.countP_eq_length_filter]
  refine Nat.le_trans (List.countP_mono_left (fun x _ h => hGH x h)) (Nat.le_trans ?_ hb)
  exact List.Sublist.countP_le ((List.range_sublist.mpr ht).map e)
theorem ps_ph : ∀ (n : Nat) (f : Nat → Nat), (∀ i, i ≤ n → f i < n) → ∃ i j, i < j ∧ j ≤ n ∧ f i = f j
  | 0, f, h => absurd (h 0 (by omega)) (by omega)
  | n + 1, f, h => by
    by_cases z : ∃ i, i ≤ n ∧ f i = f (n + 1)
    · obtain ⟨i, hi, e⟩ := z
      exact ⟨i, n + 1, by omega, by omega, e⟩
    · have z' : ∀ i, i ≤ n → f i ≠ f (n + 1) := fun i hi e => z ⟨i, hi, e⟩
      obtain ⟨i, j, hij, hj, e⟩ := ps_ph n (fun i => if f i = n then f (n + 1) else f i) (fun i hi => by
        have a := h i (by omega)
        have b := h (n + 1) (by omega)
        have c := z' i hi
        show (if f i = n then f (n + 1) else f i) < n
        split <;> omega)
      refine ⟨i, j, hij, by omega, ?_⟩
      have a := z' i (by omega)
      have b := z' j hj
      have e : (if f i = n then f (n + 1) else f i) = (if f j = n then f (n + 1) else f j) := e
      split at e <;> split at e <;> omega
def ps_it (F : Nat → Nat) : Nat → Nat
  | 0 => 0
  | m + 1 => F (ps_it F m)
theorem ps_it_lt {n : Nat} {F : Nat → Nat} (hn : 0 < n) (hF : ∀ p, p < n → F p < n) : ∀ m, ps_it F m < n
  | 0 => hn
  | m + 1 => hF _ (ps_it_lt hn hF m)
theorem ps_it_back {n : Nat} {F : Nat → Nat} (hn : 0 < n) (hF : ∀ p, p < n → F p < n) (hi : ∀ p q, p < n → q < n → F p = F q → p = q) (d : Nat) : ∀ i, ps_it F i = ps_it F (i + d) → ps_it F d = 0
  | 0, e => by rw [Nat.zero_add] at e; exact e.symm
  | i + 1, e => by
    rw [show i + 1 + d = (i + d) + 1 by omega] at e
    exact ps_it_back hn hF hi d i (hi _ _ (ps_it_lt hn hF i) (ps_it_lt hn hF (i + d)) e)
theorem ps_per {n : Nat} {F : Nat → Nat} (hn : 0 < n) (hF : ∀ p, p < n → F p < n) (hi : ∀ p q, p < n → q < n → F p = F q → p = q) : ∃ m, 1 ≤ m ∧ m ≤ n ∧ ps_it F m = 0 ∧ ∀ j, 1 ≤ j → j < m → ps_it F j ≠ 0 := by
  obtain ⟨i, j, hij, hj, e⟩ := ps_ph n (ps_it F) (fun i _ => ps_it_lt hn hF i)
  have e2 := ps_it_back hn hF hi (j - i) i (by rw [e]; congr 1; omega)
  obtain ⟨m, hm, hl⟩ := pk_least (fun m => 1 ≤ m ∧ m ≤ n ∧ ps_it F m = 0) ⟨j - i, by omega, by omega, e2⟩
  exact ⟨m, hm.1, hm.2.1, hm.2.2, fun k h1 h2 h3 => hl k h2 ⟨h1, by omega, h3⟩⟩
def ps_cn (P : Nat → Bool) : Nat → Nat
  | 0 => 0
  | m + 1 => if P m then ps_cn P m + 1 else ps_cn P m
theorem ps_cn_le (P : Nat → Bool) : ∀ m, ps_cn P m ≤ m
  | 0 => Nat.le_refl 0
  | m + 1 => by
    have := ps_cn_le P m
    rw [ps_cn]
    split <;> omega
