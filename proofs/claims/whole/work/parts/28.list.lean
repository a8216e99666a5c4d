/-! PURE: rows of unlike numbers, the least first -/
def ins (v : Nat) : List Nat → List Nat
  | [] => [v]
  | a :: l => if v < a then v :: a :: l else if v = a then a :: l else a :: ins v l
def pf (v : Nat) : List Nat → Nat
  | [] => 0
  | a :: l => if a < v then pf v l + 1 else 0
def Srt (l : List Nat) : Prop := ∀ i j, i < j → j < l.length → l.getD i 0 < l.getD j 0
theorem gd_cons (a : Nat) (l : List Nat) (i : Nat) : (a :: l).getD (i + 1) 0 = l.getD i 0 := rfl
theorem Srt_nil : Srt [] := fun i j _ h => by simp at h
theorem Srt_tail {a : Nat} {l : List Nat} (h : Srt (a :: l)) : Srt l := fun i j h1 h2 => h (i + 1) (j + 1) (by omega) (by simp only [List.length_cons]; omega)
theorem Srt_head {a : Nat} {l : List Nat} (h : Srt (a :: l)) : ∀ i, i < l.length → a < l.getD i 0 := fun i hi => h 0 (i + 1) (by omega) (by simp only [List.length_cons]; omega)
theorem pf_le (v : Nat) (l : List Nat) : pf v l ≤ l.length := by
  induction l with
  | nil => exact Nat.le_refl _
  | cons a l ih => rw [pf]; split <;> simp only [List.length_cons] <;> omega
theorem pf_lt {v : Nat} {l : List Nat} {i : Nat} (h : i < pf v l) : l.getD i 0 < v := by
  induction l generalizing i with
  | nil => exact absurd h (Nat.not_lt_zero _)
  | cons a l ih =>
    rw [pf] at h
    split at h
    · cases i with
      | zero => assumption
      | succ i => exact ih (by omega)
    · omega
theorem pf_ge {v : Nat} {l : List Nat} (hs : Srt l) {i : Nat} (h : pf v l ≤ i) (hi : i < l.length) : v ≤ l.getD i 0 := by
  induction l generalizing i with
  | nil => simp at hi
  | cons a l ih =>
    rw [pf] at h
    split at h
    · cases i with
      | zero => omega
      | succ i => exact ih (Srt_tail hs) (by omega) (by simp only [List.length_cons] at hi; omega)
    · rename_i hn
      cases i with
      | zero => exact Nat.not_lt.mp hn
      | succ i =>
        have := Srt_head hs i (by simp only [List.length_cons] at hi; omega)
        rw [gd_cons]; omega
theorem gd_get {l : List Nat} {i : Nat} (hi : i < l.length) : l.getD i 0 = l[i] := by
  rw [List.getD_eq_getElem?_getD, List.getElem?_eq_getElem hi]; rfl
theorem mem_gd {v : Nat} {l : List Nat} : v ∈ l ↔ ∃ i, i < l.length ∧ l.getD i 0 = v := by
  constructor
  · intro h
    obtain ⟨i, hi, he⟩ := List.mem_iff_getElem.mp h
    exact ⟨i, hi, by rw [gd_get hi]; exact he⟩
  · rintro ⟨i, hi, he⟩
    rw [gd_get hi] at he
    rw [← he]; exact List.getElem_mem hi
theorem mem_pf {v : Nat} {l : List Nat} (hs : Srt l) : v ∈ l ↔ pf v l < l.length ∧ l.getD (pf v l) 0 = v := by
  rw [mem_gd]
  constructor
  · rintro ⟨i, hi, he⟩
    have h1 : ¬ i < pf v l := fun q => by have := pf_lt q; omega
    by_cases c : pf v l = i
    · rw [c]; exact ⟨hi, he⟩
    · have h2 := hs (pf v l) i (by omega) hi
      have h3 := pf_ge hs (Nat.le_refl (pf v l)) (by omega)
      omega
  · rintro ⟨h1, h2⟩; exact ⟨_, h1, h2⟩
theorem mem_ins {v x : Nat} {l : List Nat} : x ∈ ins v l ↔ x = v ∨ x ∈ l := by
  induction l with
  | nil => simp [ins]
  | cons a l ih =>
    rw [ins]
    split
    · simp
    · split
      · rename_i h
        constructor
        · intro q; exact Or.inr q
        · rintro (q | q)
          · rw [q, h]; exact List.mem_cons_self
          · exact q
      · rw [List.mem_cons, ih, List.mem_cons]
        constructor
        · rintro (q | q | q)
          · exact Or.inr (Or.inl q)
          · exact Or.inl q
          · exact Or.inr (Or.inr q)
        · rintro (q | q | q)
          · exact Or.inr (Or.inl q)
          · exact Or.inl q
          · exact Or.inr (Or.inr q)
theorem ins_old {v : Nat} {l : List Nat} (hs : Srt l) (h : v ∈ l) : ins v l = l := by
  induction l with
  | nil => cases h
  | cons a l ih =>
    rw [ins]
    rw [List.mem_cons] at h
    by_cases c : v = a
    · rw [if_neg (by omega), if_pos c]
    · have hl : v ∈ l := by rcases h with h | h; exact absurd h c; exact h
      obtain ⟨i, hi, he⟩ := mem_gd.mp hl
      have := Srt_head hs i hi
      rw [if_neg (by omega), if_neg c, ih (Srt_tail hs) hl]
theorem ins_len {v : Nat} {l : List Nat} (h : v ∉ l) : (ins v l).length = l.length + 1 := by
  induction l with
  | nil => rfl
  | cons a l ih =>
    rw [ins]
    rw [List.mem_cons, not_or] at h
    split
    · rfl
    · rw [if_neg h.1, List.length_cons, ih h.2, List.length_cons]
theorem ins_gd {v : Nat} {l : List Nat} (h : v ∉ l) (i : Nat) : (ins v l).getD i 0 = if i < pf v l then l.getD i 0 else if i = pf v l then v else l.getD (i - 1) 0 := by
  induction l generalizing i with
  | nil =>
    rw [ins, pf]
    cases i with
    | zero => rfl
    | succ i => rfl
  | cons a l ih =>
    rw [List.mem_cons, not_or] at h
    rw [ins, pf]
    by_cases c0 : v < a
    · rw [if_pos c0, if_neg (show ¬ a < v by omega), if_neg (show ¬ i < 0 by omega)]
      cases i with
      | zero => rfl
      | succ i => rw [if_neg (show ¬ i + 1 = 0 by omega)]; rfl
    · rw [if_neg c0, if_neg h.1, if_pos (show a < v by have := h.1; omega)]
      cases i with
      | zero => rw [if_pos (show 0 < pf v l + 1 by omega)]; rfl
      | succ i =>
        rw [gd_cons, ih h.2]
        by_cases c1 : i < pf v l
        · rw [if_pos c1, if_pos (show i + 1 < pf v l + 1 by omega)]; rfl
        · rw [if_neg c1, if_neg (show ¬ i + 1 < pf v l + 1 by omega)]
          by_cases c2 : i = pf v l
          · rw [if_pos c2, if_pos (show i + 1 = pf v l + 1 by omega)]
          · rw [if_neg c2, if_neg (show ¬ i + 1 = pf v l + 1 by omega)]
            cases i with
            | zero => omega
            | succ i => rfl
theorem ins_srt {v : Nat} {l : List Nat} (hs : Srt l) : Srt (ins v l) := by
  by_cases h : v ∈ l
  · rw [ins_old hs h]; exact hs
  · intro i j hij hj
    rw [ins_len h] at hj
    rw [ins_gd h, ins_gd h]
    have hle := pf_le v l
    have hgt : ∀ k, pf v l ≤ k → k < l.length → v < l.getD k 0 := by
      intro k h1 h2
      have := pf_ge hs h1 h2
      have hne : l.getD k 0 ≠ v := fun q => h (mem_gd.mpr ⟨k, h2, q⟩)
      omega
    by_cases c1 : j < pf v l
    · rw [if_pos (by omega), if_pos c1]; exact hs i j hij (by omega)
    · rw [if_neg c1]
      by_cases c2 : j = pf v l
      · rw [if_pos c2, if_pos (by omega)]; exact pf_lt (by omega)
      · rw [if_neg c2]
        by_cases c3 : i < pf v l
        · rw [if_pos c3]
          by_cases c4 : i < j - 1
          · exact hs i (j - 1) c4 (by omega)
          · omega
        · rw [if_neg c3]
          by_cases c4 : i = pf v l
          · rw [if_pos c4]; exact hgt _ (by omega) (by omega)
          · rw [if_neg c4]; exact hs (i - 1) (j - 1) (by omega) (by omega)
def Bnd (l : List Nat) : Prop := ∀ i, i < l.length → l.getD i 0 < 262144
theorem Bnd_ins {v : Nat} {l : List Nat} (hs : Srt l) (hb : Bnd l) (hv : v < 262144) : Bnd (ins v l) := by
  by_cases h : v ∈ l
  · rw [ins_old hs h]; exact hb
  · intro i hi
    rw [ins_len h] at hi
    rw [ins_gd h]
    have hle := pf_le v l
    by_cases c1 : i < pf v l
    · rw [if_pos c1]; exact hb i (by omega)
    · rw [if_neg c1]
      by_cases c2 : i = pf v l
      · rw [if_pos c2]; exact hv
      · rw [if_neg c2]; exact hb (i - 1) (by omega)
theorem ins_le (v : Nat) (l : List Nat) (hs : Srt l) : (ins v l).length ≤ l.length + 1 := by
  by_cases h : v ∈ l
  · rw [ins_old hs h]; omega
  · rw [ins_len h]; omega
/-- the class's rows -/
def RoC (k : Nat) (l : List Nat) (σ : Mm) : Prop := Srt l ∧ Bnd l ∧ l.length ≤ alen (k + 1) ∧ alen (k + 1) ≤ 6000 ∧ σ.1 k 1 = nI l.length ∧ ∀ i, i < l.length → σ.1 (k + 1) i = nI (l.getD i 0)
theorem placeFor_eq {k v : Nat} {l : List Nat} {σ : Mm} (hR : RoC k l σ) (hv : v < 262144) : f_X4_placeFor k (nI v) σ = some (nI (pf v l), σ) := by
  obtain ⟨hs, hb, hlen, hcap, h1, h2⟩ := hR
  have hpl := pf_le v l
  unfold f_X4_placeFor
  rw [p_nm, h1]
  refine lq3 (F := f_X4_placeFor_L10 k (nI v)) (fun a b c τ => ∃ lo hi m, a = nI lo ∧ b = nI hi ∧ c = nI m ∧ τ = σ ∧ lo ≤ pf v l ∧ pf v l ≤ hi ∧ hi ≤ l.length ∧ m ≤ 13 ∧ hi - lo < 2 ^ (13 - m)) (fun _ _ c _ => 14 - ix c) (fun o => o = some (nI (pf v l), σ)) ?_ FU (0 : Int32) _ (0 : Int32) σ ?_ ⟨0, l.length, 0, rfl, rfl, rfl, rfl, by omega, hpl, by omega, by omega, by show l.length - 0 < 2 ^ 13; omega⟩
  · rintro L a b c τ ⟨lo, hi, m, rfl, rfl, rfl, rfl, g1, g2, g3, g4, g5⟩
    unfold f_X4_placeFor_L10 f_X4_placeFor_51
    simp only [qi_0, qi_1, qi_2, qi_3, qi_4, qi_5, qi_6, qi_7, qi_8, qi_9, qi_10, qi_11, qi_12, qi_13, qi_14, qi_15, qi_16, qi_17, qi_19, qi_26, qi_31, qi_32, qi_35, qi_40, qi_42, qi_48, qi_50, qi_57, qi_59, qi_63, qi_64, qi_97, qi_120, qi_122, qi_210, qi_255, qi_511, qi_512, qi_1000, qi_6000, qi_13312, qi_14337, qi_16383, qi_16384, qi_524287]
    rw [i_nle (a := 32) (b := m) (by omega) (by omega)]
    by_cases c : hi ≤ lo
    · right
      rw [i_le (by omega) c]
      congr 3; omega
    · left
      have hm : m < 13 := by
        apply Classical.byContradiction
        intro q
        have e : 13 - m = 0 := by omega
        rw [e] at g5
        have : (2 : Nat) ^ 0 = 1 := rfl
        omega
      have e13 : 13 - m = 13 - (m + 1) + 1 := by omega
      rw [e13, Nat.pow_succ] at g5
      have hmid : (lo + hi) / 2 < l.length := by omega
      rw [i_nle (by omega) (by omega), p_nm, nI_add, p_idv (by omega) (by omega) (by omega), p_ck _ (by omega) (by omega), p_ix (a := (lo + hi) / 2) (by omega), h2 _ hmid]
      have hbm := hb _ hmid
      by_cases d : v ≤ l.getD ((lo + hi) / 2) 0
      · refine ⟨nI lo, nI ((lo + hi) / 2), nI (m + 1), τ, ⟨lo, (lo + hi) / 2, m + 1, rfl, rfl, rfl, rfl, g1, ?_, by omega, by omega, by omega⟩, ?_, ?_⟩
        · apply Nat.not_lt.mp
          intro q
          have := pf_lt q
          omega
        · rw [p_ix (by omega), p_ix (by omega)]; omega
        · rw [i_le (by omega) d, p_nm, nI_add]
      · refine ⟨nI ((lo + hi) / 2 + 1), nI hi, nI (m + 1), τ, ⟨(lo + hi) / 2 + 1, hi, m + 1, rfl, rfl, rfl, rfl, ?_, g2, g3, by omega, by omega⟩, ?_, ?_⟩
        · apply Nat.not_lt.mp
          intro q
          have := pf_ge (v := v) hs (i := (lo + hi) / 2) (by omega) hmid
          omega
        · rw [p_ix (by omega), p_ix (by omega)]; omega
        · rw [i_nle (by omega) (by omega), p_nm, p_nm, nI_add, nI_add]
  · show 14 - ix (nI 0) < 40000
    rw [p_ix (by omega)]; omega
theorem holds_eq {v : Nat} {l : List Nat} {σ : Mm} (hR : RoC 28 l σ) (hv : v < 262144) : f_X4_holds (nI v) σ = some (bI (decide (v ∈ l)), σ) := by
  have hR0 := hR
  obtain ⟨hs, hb, hlen, hcap, h1, h2⟩ := hR
  have hpl := pf_le v l
  have hlen : l.length ≤ 90 := hlen
  unfold f_X4_holds f_X4_holds_28
  simp only [qi_0, qi_1, qi_2, qi_3, qi_4, qi_5, qi_6, qi_7, qi_8, qi_9, qi_10, qi_11, qi_12, qi_13, qi_14, qi_15, qi_16, qi_17, qi_19, qi_26, qi_31, qi_32, qi_35, qi_40, qi_42, qi_48, qi_50, qi_57, qi_59, qi_63, qi_64, qi_97, qi_120, qi_122, qi_210, qi_255, qi_511, qi_512, qi_1000, qi_6000, qi_13312, qi_14337, qi_16383, qi_16384, qi_524287]
  rw [placeFor_eq hR0 hv, p_bd, h1]
  by_cases c : l.length ≤ pf v l
  · rw [i_le (by omega) c, p_cb0, decide_eq_false (fun q => by have := ((mem_pf hs).mp q).1; omega), bI_f]
  · have hbb := hb (pf v l) (by omega)
    rw [i_nle (by omega) (by omega), p_ck _ (by omega) (by omega), p_ix (by omega), h2 _ (by omega)]
    by_cases d : l.getD (pf v l) 0 = v
    · rw [i_eq d, p_cb1, decide_eq_true ((mem_pf hs).mpr ⟨by omega, d⟩), bI_t]
    · rw [i_ne (by omega) (by omega) d, p_cb0, decide_eq_false (fun q => d ((mem_pf hs).mp q).2), bI_f]
theorem rowInclude_eq {k v : Nat} {l : List Nat} {σ : Mm} (hR : RoC k l σ) (hv : v < 262144) (hfull : l.length < alen (k + 1)) : ∃ σ', f_X4_include k (nI v) σ = some ((), σ') ∧ RoC k (ins v l) σ' ∧ Fr [k, k + 1] σ σ' := by
  have hR0 := hR
  obtain ⟨hs, hb, hlen, hcap, h1, h2⟩ := hR
  have hpl := pf_le v l
  unfold f_X4_include
  rw [placeFor_eq hR0 hv, p_bd, h1]
  by_cases hm : v ∈ l
  · obtain ⟨q1, q2⟩ := (mem_pf hs).mp hm
    refine ⟨σ, ?_, by rw [ins_old hs hm]; exact hR0, Fr.rf _ _⟩
    rw [i_nle (by omega) q1, p_ck _ (by omega) (by omega), p_ix (by omega), h2 _ q1, i_eq q2]
  · have key : ∃ σ', f_X4_include_24 k (nI v) (nI (pf v l)) σ = some ((), σ') ∧ RoC k (ins v l) σ' ∧ Fr [k, k + 1] σ σ' := by
      unfold f_X4_include_24
      simp only [qi_0, qi_1, qi_2, qi_3, qi_4, qi_5, qi_6, qi_7, qi_8, qi_9, qi_10, qi_11, qi_12, qi_13, qi_14, qi_15, qi_16, qi_17, qi_19, qi_26, qi_31, qi_32, qi_35, qi_40, qi_42, qi_48, qi_50, qi_57, qi_59, qi_63, qi_64, qi_97, qi_120, qi_122, qi_210, qi_255, qi_511, qi_512, qi_1000, qi_6000, qi_13312, qi_14337, qi_16383, qi_16384, qi_524287]
      rw [h1, show Int32.ofNat (alen (k + 1)) = nI (alen (k + 1)) from rfl, i_lt (by omega) hfull, nI_add, pk_sub hpl, p_ix (by omega), p_ix (by omega), p_ix (by omega)]
      have hcp : ∀ o : Option (Unit × Mm), cpy (alen (k + 1)) (alen (k + 1)) (nI (pf v l)) (nI (pf v l + 1)) (nI (l.length - pf v l)) o = o := by
        intro o
        unfold cpy
        rw [if_neg]
        rintro (q | q | q | q | q)
        · exact nI_pos (by omega) q
        · exact nI_pos (by omega) q
        · exact nI_pos (by omega) q
        · rw [nI_clamp (by omega), nI_clamp (by omega)] at q; omega
        · rw [nI_clamp (by omega), nI_clamp (by omega)] at q; omega
      rw [hcp, p_nm, p_ck _ (by omega) (by omega), p_nm, p_nm, r_sI1 (by omega), r_sR1 (by omega), h1, nI_add]
      refine ⟨_, rfl, ⟨ins_srt hs, Bnd_ins hs hb hv, by rw [ins_len hm]; omega, hcap, by rw [r_sI0, ins_len hm], ?_⟩, ?_⟩
      · intro i hi
        rw [ins_len hm] at hi
        rw [r_sI1 (by omega), ins_gd hm]
        by_cases c2 : i = pf v l
        · rw [if_neg (by omega), if_pos c2, c2, r_sI0]
        · rw [r_sIj c2, r_sR0, if_neg c2]
          by_cases c1 : i < pf v l
          · rw [if_pos c1, pk_cpy_out (by omega)]; exact h2 i (by omega)
          · rw [if_neg c1, pk_cpy_in (by omega) (by omega), show pf v l + (i - (pf v l + 1)) = i - 1 by omega]; exact h2 (i - 1) (by omega)
      · exact (((Fr.rf _ σ).sR (by simp)).sI (by simp)).sI (by simp)
    obtain ⟨σ', e1, e2, e3⟩ := key
    refine ⟨σ', ?_, e2, e3⟩
    by_cases c : l.length ≤ pf v l
    · rw [i_le (by omega) c]; exact e1
    · have hbb := hb (pf v l) (by omega)
      have hne : l.getD (pf v l) 0 ≠ v := fun q => hm ((mem_pf hs).mpr ⟨by omega, q⟩)
      rw [i_nle (by omega) (by omega), p_ck _ (by omega) (by omega), p_ix (by omega), h2 _ (by omega), i_ne (by omega) (by omega) hne]
      exact e1
