/-! PURE: all states, breadth first -/
def upq {α : Type} (f : Nat → α) (k : Nat) (v : α) : Nat → α := fun j => if j = k then v else f j
theorem upq_s {α : Type} {f : Nat → α} {k : Nat} {v : α} : upq f k v k = v := if_pos rfl
theorem upq_n {α : Type} {f : Nat → α} {k j : Nat} {v : α} (h : j ≠ k) : upq f k v j = f j := if_neg h
def idx (f : Nat → Nat) (y : Nat) : Nat → Option Nat
  | 0 => none
  | n + 1 => match idx f y n with
    | some j => some j
    | none => if f n = y then some n else none
theorem idx_some {f : Nat → Nat} {y : Nat} : ∀ {n j : Nat}, idx f y n = some j → j < n ∧ f j = y := by
  intro n
  induction n with
  | zero => intro j h; cases h
  | succ n ih =>
    intro j h
    rw [idx] at h
    cases h1 : idx f y n with
    | some i =>
      rw [h1] at h
      simp only [Option.some.injEq] at h
      subst h
      exact ⟨by have := (ih h1).1; omega, (ih h1).2⟩
    | none =>
      rw [h1] at h
      simp only at h
      split at h
      · rename_i h2
        simp only [Option.some.injEq] at h
        subst h
        exact ⟨by omega, h2⟩
      · cases h
theorem idx_none {f : Nat → Nat} {y : Nat} : ∀ {n : Nat}, idx f y n = none → ∀ j, j < n → f j ≠ y := by
  intro n
  induction n with
  | zero => intro _ j hj; omega
  | succ n ih =>
    intro h j hj
    rw [idx] at h
    cases h1 : idx f y n with
    | some i => rw [h1] at h; cases h
    | none =>
      rw [h1] at h
      simp only at h
      split at h
      · cases h
      · rename_i h2
        by_cases h3 : j = n
        · subst h3; exact h2
        · exact ih h1 j (by omega)
theorem idx_inj {f : Nat → Nat} {n j : Nat} (hi : ∀ a b, a < n → b < n → f a = f b → a = b) (hj : j < n) : idx f (f j) n = some j := by
  cases h : idx f (f j) n with
  | some i => rw [hi i j (idx_some h).1 hj (idx_some h).2]
  | none => exact absurd rfl (idx_none h j hj)
abbrev Bs : Type := Nat × (Nat → Nat) × (Nat → Option Nat) × (Nat → Nat) × (Nat → Nat)
def bN (b : Bs) : Nat := b.1
def bF (b : Bs) : Nat → Nat := b.2.1
def bG (b : Bs) : Nat → Option Nat := b.2.2.1
def bC (b : Bs) : Nat → Nat := b.2.2.2.1
def bD (b : Bs) : Nat → Nat := b.2.2.2.2
def bput (b : Bs) (e y : Nat) : Bs := match idx (bF b) y (bN b) with
    | some j => (bN b, bF b, upq (bG b) e (some j), bC b, bD b)
    | none => (bN b + 1, upq (bF b) (bN b) y, upq (bG b) e (some (bN b)), upq (bC b) (bN b) e, upq (bD b) (bN b) (bD b (e / 6) + 1))
def bst (nx : Nat → Nat → Option Nat) (b : Bs) (e : Nat) : Bs :=
  if bN b ≤ e / 6 ∨ 6000 < bN b then b else
  match nx (bF b (e / 6)) (e % 6) with
  | none => (bN b, bF b, upq (bG b) e none, bC b, bD b)
  | some y => bput b e y
def bfs (nx : Nat → Nat → Option Nat) (x0 : Nat) : Nat → Bs
  | 0 => (1, fun _ => x0, fun _ => none, fun _ => 0, fun _ => 0)
  | e + 1 => bst nx (bfs nx x0 e) e
theorem bfs_frz {nx : Nat → Nat → Option Nat} {x0 e : Nat} (h : bN (bfs nx x0 e) ≤ e / 6 ∨ 6000 < bN (bfs nx x0 e)) : ∀ k, bfs nx x0 (e + k) = bfs nx x0 e := by
  intro k
  induction k with
  | zero => rfl
  | succ k ih =>
    show bst nx (bfs nx x0 (e + k)) (e + k) = _
    rw [ih]
    unfold bst
    rw [if_pos]
    rcases h with h | h
    · left; have : e / 6 ≤ (e + k) / 6 := Nat.div_le_div_right (by omega); omega
    · right; exact h
def BI (nx : Nat → Nat → Option Nat) (x0 e : Nat) (b : Bs) : Prop :=
  (1 ≤ bN b ∧ bN b ≤ 6001) ∧ (∀ i j, i < bN b → j < bN b → bF b i = bF b j → i = j) ∧
  (∀ j, 0 < j → j < bN b → bC b j < e ∧ bC b j < 6 * j ∧ bG b (bC b j) = some j ∧ nx (bF b (bC b j / 6)) (bC b j % 6) = some (bF b j) ∧ bD b j = bD b (bC b j / 6) + 1) ∧
  (∀ i j, 0 < i → i < j → j < bN b → bC b i < bC b j) ∧
  (∀ d, d < e → d < 6 * bN b → bN b ≤ 6000 → (bG b d = none ∧ nx (bF b (d / 6)) (d % 6) = none) ∨ ∃ j, j < bN b ∧ bG b d = some j ∧ nx (bF b (d / 6)) (d % 6) = some (bF b j) ∧ (0 < j → bC b j ≤ d)) ∧
  bF b 0 = x0 ∧ bD b 0 = 0
theorem BI_0 (nx : Nat → Nat → Option Nat) (x0 : Nat) : BI nx x0 0 (bfs nx x0 0) := by
  refine ⟨⟨Nat.le_refl 1, show 1 ≤ 6001 by omega⟩, ?_, ?_, ?_, ?_, rfl, rfl⟩
  · intro i j hi hj _
    have hi : i < 1 := hi
    have hj : j < 1 := hj
    omega
  · intro j h0 h1
    have h1 : j < 1 := h1
    omega
  · intro i j h0 h1 h2
    have h2 : j < 1 := h2
    omega
  · intro d hd; omega
theorem BI_put {nx : Nat → Nat → Option Nat} {x0 e : Nat} {b : Bs} (h : BI nx x0 e b) (hlt : e < 6 * bN b) (hs : bN b ≤ 6000) {y : Nat} (hy : nx (bF b (e / 6)) (e % 6) = some y) : BI nx x0 (e + 1) (bput b e y) := by
  obtain ⟨⟨h1, h1'⟩, h2, h3, h4, h5, h6, h7⟩ := h
  unfold bput
  cases hi : idx (bF b) y (bN b) with
  | some j =>
    obtain ⟨hj, hf⟩ := idx_some hi
    refine ⟨⟨h1, h1'⟩, h2, ?_, h4, ?_, h6, h7⟩
    · intro i i0 iN
      obtain ⟨a1, a2, a3, a4, a5⟩ := h3 i i0 iN
      refine ⟨Nat.lt_succ_of_lt a1, a2, ?_, a4, a5⟩
      show upq (bG b) e (some j) (bC b i) = some i
      rw [upq_n (by omega)]; exact a3
    · intro d hd hdN _
      show (upq (bG b) e (some j) d = none ∧ _) ∨ _
      by_cases he : d = e
      · subst he
        right
        refine ⟨j, hj, upq_s, ?_, fun j0 => ?_⟩
        · show nx (bF b (d / 6)) (d % 6) = some (bF b j)
          rw [hf]; exact hy
        · exact Nat.le_of_lt (h3 j j0 hj).1
      · rcases h5 d (by omega) hdN hs with ⟨a1, a2⟩ | ⟨i, a1, a2, a3, a4⟩
        · left; exact ⟨by rw [upq_n he]; exact a1, a2⟩
        · right; exact ⟨i, a1, by show upq (bG b) e (some j) d = some i; rw [upq_n he]; exact a2, a3, a4⟩
  | none =>
    have hnew := idx_none hi
    have hq : e / 6 < bN b := by omega
    have e1 : ∀ i, i < bN b → upq (bF b) (bN b) y i = bF b i := fun i hi => upq_n (by omega)
    have e2 : ∀ i, i < bN b → upq (bC b) (bN b) e i = bC b i := fun i hi => upq_n (by omega)
    have e3 : ∀ i, i < bN b → upq (bD b) (bN b) (bD b (e / 6) + 1) i = bD b i := fun i hi => upq_n (by omega)
    refine ⟨⟨by show 1 ≤ bN b + 1; omega, by show bN b + 1 ≤ 6001; omega⟩, ?_, ?_, ?_, ?_, ?_, ?_⟩
    · intro i j (hi : i < bN b + 1) (hj : j < bN b + 1) (hf : upq (bF b) (bN b) y i = upq (bF b) (bN b) y j)
      by_cases c1 : i = bN b
      · by_cases c2 : j = bN b
        · omega
        · rw [c1, upq_s, e1 j (by omega)] at hf
          exact absurd hf.symm (hnew j (by omega))
      · by_cases c2 : j = bN b
        · rw [c2, upq_s, e1 i (by omega)] at hf
          exact absurd hf (hnew i (by omega))
        · rw [e1 i (by omega), e1 j (by omega)] at hf
          exact h2 i j (by omega) (by omega) hf
    · intro j j0 (hj : j < bN b + 1)
      show upq (bC b) (bN b) e j < e + 1 ∧ upq (bC b) (bN b) e j < 6 * j ∧ upq (bG b) e (some (bN b)) (upq (bC b) (bN b) e j) = some j ∧ nx (upq (bF b) (bN b) y (upq (bC b) (bN b) e j / 6)) (upq (bC b) (bN b) e j % 6) = some (upq (bF b) (bN b) y j) ∧ upq (bD b) (bN b) (bD b (e / 6) + 1) j = upq (bD b) (bN b) (bD b (e / 6) + 1) (upq (bC b) (bN b) e j / 6) + 1
      by_cases c : j = bN b
      · subst c
        rw [upq_s, upq_s, upq_s, upq_s, e1 _ hq, e3 _ hq]
        exact ⟨by omega, hlt, rfl, hy, rfl⟩
      · have hj' : j < bN b := by omega
        obtain ⟨a1, a2, a3, a4, a5⟩ := h3 j j0 hj'
        have hq2 : bC b j / 6 < bN b := by omega
        rw [e2 j hj', e1 j hj', e3 j hj', e1 _ hq2, e3 _ hq2, upq_n (by omega)]
        exact ⟨by omega, a2, a3, a4, a5⟩
    · intro i j i0 hij (hj : j < bN b + 1)
      show upq (bC b) (bN b) e i < upq (bC b) (bN b) e j
      rw [e2 i (by omega)]
      by_cases c : j = bN b
      · subst c
        rw [upq_s]
        exact (h3 i i0 hij).1
      · rw [e2 j (by omega)]
        exact h4 i j i0 hij (by omega)
    · intro d hd (hdN : d < 6 * (bN b + 1)) (hN6 : bN b + 1 ≤ 6000)
      show (upq (bG b) e (some (bN b)) d = none ∧ nx (upq (bF b) (bN b) y (d / 6)) (d % 6) = none) ∨ ∃ j, j < bN b + 1 ∧ upq (bG b) e (some (bN b)) d = some j ∧ nx (upq (bF b) (bN b) y (d / 6)) (d % 6) = some (upq (bF b) (bN b) y j) ∧ (0 < j → upq (bC b) (bN b) e j ≤ d)
      rw [e1 (d / 6) (by omega)]
      by_cases he : d = e
      · subst he
        right
        exact ⟨bN b, by omega, upq_s, by rw [upq_s]; exact hy, fun _ => by rw [upq_s]; omega⟩
      · rcases h5 d (by omega) (by omega) hs with ⟨a1, a2⟩ | ⟨i, a1, a2, a3, a4⟩
        · left; exact ⟨by rw [upq_n he]; exact a1, a2⟩
        · right; exact ⟨i, by omega, by rw [upq_n he]; exact a2, by rw [e1 i a1]; exact a3, fun i0 => by rw [e2 i a1]; exact a4 i0⟩
    · show upq (bF b) (bN b) y 0 = x0
      rw [e1 0 (by omega)]; exact h6
    · show upq (bD b) (bN b) (bD b (e / 6) + 1) 0 = 0
      rw [e3 0 (by omega)]; exact h7
theorem BI_none {nx : Nat → Nat → Option Nat} {x0 e : Nat} {b : Bs} (h : BI nx x0 e b) (hy : nx (bF b (e / 6)) (e % 6) = none) : BI nx x0 (e + 1) (bN b, bF b, upq (bG b) e none, bC b, bD b) := by
  obtain ⟨h1, h2, h3, h4, h5, h6, h7⟩ := h
  refine ⟨h1, h2, ?_, h4, ?_, h6, h7⟩
  · intro i i0 iN
    obtain ⟨a1, a2, a3, a4, a5⟩ := h3 i i0 iN
    refine ⟨Nat.lt_succ_of_lt a1, a2, ?_, a4, a5⟩
    show upq (bG b) e none (bC b i) = some i
    rw [upq_n (by omega)]; exact a3
  · intro d hd hdN hs
    show (upq (bG b) e none d = none ∧ _) ∨ _
    by_cases he : d = e
    · subst he
      left; exact ⟨upq_s, hy⟩
    · rcases h5 d (by omega) hdN hs with ⟨a1, a2⟩ | ⟨i, a1, a2, a3, a4⟩
      · left; exact ⟨by rw [upq_n he]; exact a1, a2⟩
      · right; exact ⟨i, a1, by show upq (bG b) e none d = some i; rw [upq_n he]; exact a2, a3, a4⟩
theorem BI_all (nx : Nat → Nat → Option Nat) (x0 : Nat) : ∀ e, BI nx x0 e (bfs nx x0 e) := by
  intro e
  induction e with
  | zero => exact BI_0 nx x0
  | succ e ih =>
    show BI nx x0 (e + 1) (bst nx (bfs nx x0 e) e)
    unfold bst
    split
    · rename_i hf
      obtain ⟨h1, h2, h3, h4, h5, h6, h7⟩ := ih
      refine ⟨h1, h2, fun j j0 jN => ?_, h4, fun d hd hdN hs => ?_, h6, h7⟩
      · obtain ⟨a1, a2⟩ := h3 j j0 jN
        exact ⟨by omega, a2⟩
      · exact h5 d (by omega) hdN hs
    · rename_i hf
      split
      · rename_i hy
        exact BI_none ih hy
      · rename_i y hy
        exact BI_put ih (by omega) (by omega) hy
/-- far rises with the number -/
theorem BI_far {nx : Nat → Nat → Option Nat} {x0 e : Nat} {b : Bs} (h : BI nx x0 e b) : ∀ j, j < bN b → ∀ i, i ≤ j → bD b i ≤ bD b j := by
  obtain ⟨h1, h2, h3, h4, h5, h6, h7⟩ := h
  intro j
  induction j using Nat.strongRecOn with
  | _ j ih =>
    intro hj i hij
    by_cases c : i = j
    · subst c; exact Nat.le_refl _
    · by_cases c0 : i = 0
      · subst c0; rw [h7]; exact Nat.zero_le _
      · obtain ⟨a1, a2, a3, a4, a5⟩ := h3 i (by omega) (by omega)
        obtain ⟨b1, b2, b3, b4, b5⟩ := h3 j (by omega) hj
        have hc := h4 i j (by omega) (by omega) hj
        rw [a5, b5]
        have : bC b i / 6 ≤ bC b j / 6 := Nat.div_le_div_right (by omega)
        have := ih (bC b j / 6) (by omega) (by omega) (bC b i / 6) this
        omega
