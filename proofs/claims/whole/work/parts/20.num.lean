/-! PURE: numbers, memory, frames, loops -/
theorem p_bd {ρ β : Type} (r : ρ) (σ : Mm) (f : ρ → Mm → Option β) : bd (some (r, σ)) f = f r σ := (rfl)
theorem p_nm {α β : Type} (a : α) (f : α → β) : nm a f = f a := (rfl)
theorem p_cb0 {β : Type} (o : Option β) : cb (nI 0) o = o := by unfold cb; exact if_pos (Or.inl rfl)
theorem p_cb1 {β : Type} (o : Option β) : cb (nI 1) o = o := by unfold cb; exact if_pos (Or.inr rfl)
theorem p_ck {β : Type} {a n : Nat} (o : Option β) (h : a < n) (hn : n < 2147483648) : ck (nI a) n o = o := by
  unfold ck; rw [if_neg (nI_in h (by omega))]
theorem p_ix {a : Nat} (h : a < 2147483648) : ix (nI a) = a := nI_clamp (by omega)
theorem p_irm {a d : Nat} (ha : a < 2147483648) (h0 : 0 < d) (hd : d < 2147483648) : irm (nI a) (nI d) = nI (a % d) := pk_rem (by omega) h0 (by omega)
theorem p_lrm {a d : Nat} (ha : a < 9223372036854775808) (h0 : 0 < d) (hd : d < 9223372036854775808) : lrm (lN a) (lN d) = lN (a % d) := pk_lRem (by omega) h0 (by omega)
theorem p_ldv {a d : Nat} (ha : a < 9223372036854775808) (h0 : 0 < d) (hd : d < 9223372036854775808) : lN a / lN d = lN (a / d) := pk_lDiv (by omega) h0 (by omega)
theorem p_idv {a d : Nat} (ha : a < 2147483648) (h0 : 0 < d) (hd : d < 2147483648) : nI a / nI d = nI (a / d) := pk_div (by omega) h0 (by omega)
theorem p_fx {γ : Type} (bot : γ) (n : Nat) (F : γ → γ) : fx bot (n + 1) F = F (fx bot n F) := rfl
theorem p_neg {a : Nat} (h : a < 2147483648) : ¬ nI a < nI 0 := nI_pos (by omega)
theorem p_m1eq {a : Nat} (h : a < 2147483648) : (nI a = -nI 1) = False := by
  apply eq_false
  intro e
  have h1 := congrArg Int32.toInt e
  rw [nI_toInt (by omega)] at h1
  have h2 : (-nI 1).toInt = -1 := by decide
  omega
theorem p_m1lt : (-nI 1 < nI 0) = True := by apply eq_true; decide
theorem p_m1le : (nI 0 ≤ -nI 1) = False := by apply eq_false; decide
theorem p_m1l {a : Nat} (h : a < 2147483648) : (-nI 1 < nI a) = True := by
  apply eq_true
  rw [Int32.lt_iff_toInt_lt, nI_toInt (by omega)]
  have h2 : (-nI 1).toInt = -1 := by decide
  omega
theorem p_m1ll {a : Nat} (h : a < 2147483648) : (-nI 1 ≤ nI a) = True := by
  apply eq_true
  rw [Int32.le_iff_toInt_le, nI_toInt (by omega)]
  have h2 : (-nI 1).toInt = -1 := by decide
  omega
theorem p_m1g {a : Nat} (h : a < 2147483648) : (nI a < -nI 1) = False := by
  apply eq_false
  rw [Int32.lt_iff_toInt_lt, nI_toInt (by omega)]
  have h2 : (-nI 1).toInt = -1 := by decide
  omega
theorem p_m1gl {a : Nat} (h : a < 2147483648) : (nI a ≤ -nI 1) = False := by
  apply eq_false
  rw [Int32.le_iff_toInt_le, nI_toInt (by omega)]
  have h2 : (-nI 1).toInt = -1 := by decide
  omega
theorem p_tf {α : Type} (a b : α) : (if True then a else b) = a := if_pos trivial
theorem p_ff {α : Type} (a b : α) : (if False then a else b) = b := if_neg (fun h => h)
/-- memory -/
theorem r_sI1 {σ : Mm} {k j k' : Nat} {v : Int32} (h : k' ≠ k) : (sI σ k j v).1 k' = σ.1 k' := (sR_ne _ _ _ _ h).1
theorem r_sI0 {σ : Mm} {k j : Nat} {v : Int32} : (sI σ k j v).1 k j = v := by unfold sI; rw [sR_eq]; exact pk_us
theorem r_sIj {σ : Mm} {k j j' : Nat} {v : Int32} (h : j' ≠ j) : (sI σ k j v).1 k j' = σ.1 k j' := by unfold sI; rw [sR_eq]; exact pk_un h
theorem r_sI2 {σ : Mm} {k j : Nat} {v : Int32} : (sI σ k j v).2 = σ.2 := (rfl)
theorem r_sL1 {σ : Mm} {k j : Nat} {v : Int64} : (sL σ k j v).1 = σ.1 := (rfl)
theorem r_sL2 {σ : Mm} {k j k' : Nat} {v : Int64} (h : k' ≠ k) : (sL σ k j v).2 k' = σ.2 k' := (sQ_ne _ _ _ _ h).2
theorem r_sL0 {σ : Mm} {k j : Nat} {v : Int64} : (sL σ k j v).2 k j = v := by unfold sL; rw [sQ_eq]; exact pk_uLs
theorem r_sLj {σ : Mm} {k j j' : Nat} {v : Int64} (h : j' ≠ j) : (sL σ k j v).2 k j' = σ.2 k j' := by unfold sL; rw [sQ_eq]; exact pk_uLn h
theorem r_sR1 {σ : Mm} {k k' : Nat} {f : Nat → Int32} (h : k' ≠ k) : (sR σ k f).1 k' = σ.1 k' := (sR_ne _ _ _ _ h).1
theorem r_sR0 {σ : Mm} {k : Nat} {f : Nat → Int32} : (sR σ k f).1 k = f := sR_eq _ _ _
theorem r_sR2 {σ : Mm} {k : Nat} {f : Nat → Int32} : (sR σ k f).2 = σ.2 := (rfl)
theorem r_sQ1 {σ : Mm} {k : Nat} {f : Nat → Int64} : (sQ σ k f).1 = σ.1 := (rfl)
theorem r_sQ2 {σ : Mm} {k k' : Nat} {f : Nat → Int64} (h : k' ≠ k) : (sQ σ k f).2 k' = σ.2 k' := (sQ_ne _ _ _ _ h).2
theorem r_sQ0 {σ : Mm} {k : Nat} {f : Nat → Int64} : (sQ σ k f).2 k = f := sQ_eq _ _ _
theorem r_sI {σ : Mm} {k j k' j' : Nat} {v : Int32} : (sI σ k j v).1 k' j' = if k' = k ∧ j' = j then v else σ.1 k' j' := by
  by_cases h : k' = k
  · subst h
    by_cases h2 : j' = j
    · subst h2; rw [if_pos ⟨rfl, rfl⟩, r_sI0]
    · rw [if_neg (fun q => h2 q.2), r_sIj h2]
  · rw [if_neg (fun q => h q.1), r_sI1 h]
theorem r_sL {σ : Mm} {k j k' j' : Nat} {v : Int64} : (sL σ k j v).2 k' j' = if k' = k ∧ j' = j then v else σ.2 k' j' := by
  by_cases h : k' = k
  · subst h
    by_cases h2 : j' = j
    · subst h2; rw [if_pos ⟨rfl, rfl⟩, r_sL0]
    · rw [if_neg (fun q => h2 q.2), r_sLj h2]
  · rw [if_neg (fun q => h q.1), r_sL2 h]
def Fr (L : List Nat) (σ τ : Mm) : Prop := ∀ k, k ∉ L → τ.1 k = σ.1 k ∧ τ.2 k = σ.2 k
theorem Fr.rf (L : List Nat) (σ : Mm) : Fr L σ σ := fun _ _ => ⟨rfl, rfl⟩
theorem Fr.tr {L : List Nat} {σ τ υ : Mm} (h1 : Fr L σ τ) (h2 : Fr L τ υ) : Fr L σ υ := fun k hk => ⟨(h2 k hk).1.trans (h1 k hk).1, (h2 k hk).2.trans (h1 k hk).2⟩
theorem Fr.mo {L M : List Nat} {σ τ : Mm} (h1 : Fr L σ τ) (h : ∀ k, k ∈ L → k ∈ M) : Fr M σ τ := fun k hk => h1 k (fun q => hk (h k q))
theorem Fr.sI {L : List Nat} {σ τ : Mm} (h1 : Fr L σ τ) {k j : Nat} {v : Int32} (h : k ∈ L) : Fr L σ (sI τ k j v) := fun a ha => by
  have hn : a ≠ k := fun e => ha (e ▸ h)
  exact ⟨(r_sI1 hn).trans (h1 a ha).1, (h1 a ha).2⟩
theorem Fr.sL {L : List Nat} {σ τ : Mm} (h1 : Fr L σ τ) {k j : Nat} {v : Int64} (h : k ∈ L) : Fr L σ (sL τ k j v) := fun a ha => by
  have hn : a ≠ k := fun e => ha (e ▸ h)
  exact ⟨(h1 a ha).1, (r_sL2 hn).trans (h1 a ha).2⟩
theorem Fr.sR {L : List Nat} {σ τ : Mm} (h1 : Fr L σ τ) {k : Nat} {f : Nat → Int32} (h : k ∈ L) : Fr L σ (sR τ k f) := fun a ha => by
  have hn : a ≠ k := fun e => ha (e ▸ h)
  exact ⟨(r_sR1 hn).trans (h1 a ha).1, (h1 a ha).2⟩
theorem Fr.sQ {L : List Nat} {σ τ : Mm} (h1 : Fr L σ τ) {k : Nat} {f : Nat → Int64} (h : k ∈ L) : Fr L σ (sQ τ k f) := fun a ha => by
  have hn : a ≠ k := fun e => ha (e ▸ h)
  exact ⟨(h1 a ha).1, (r_sQ2 hn).trans (h1 a ha).2⟩
theorem Fr.r1 {L : List Nat} {σ τ : Mm} (h1 : Fr L σ τ) (k : Nat) (h : k ∉ L) : τ.1 k = σ.1 k := (h1 k h).1
theorem Fr.r2 {L : List Nat} {σ τ : Mm} (h1 : Fr L σ τ) (k : Nat) (h : k ∉ L) : τ.2 k = σ.2 k := (h1 k h).2
/-- loops -/
theorem lq0 {α : Type} {bot : Mm → Option α} {F : (Mm → Option α) → Mm → Option α} (I : Mm → Prop) (μ : Mm → Nat) (Q : Option α → Prop)
  (h : ∀ L σ, I σ → (∃ σ', I σ' ∧ μ σ' < μ σ ∧ F L σ = L σ') ∨ Q (F L σ)) : ∀ (n : Nat) (σ : Mm), μ σ < n → I σ → Q (fx bot n F σ) := by
  intro n
  induction n with
  | zero => intro σ hm; omega
  | succ n ih =>
    intro σ hm hI
    rw [p_fx]
    rcases h (fx bot n F) σ hI with ⟨σ', h1, h2, h3⟩ | hq
    · rw [h3]; exact ih σ' (by omega) h1
    · exact hq
theorem lq1 {A α : Type} {bot : A → Mm → Option α} {F : (A → Mm → Option α) → A → Mm → Option α} (I : A → Mm → Prop) (μ : A → Mm → Nat) (Q : Option α → Prop)
  (h : ∀ L a σ, I a σ → (∃ a' σ', I a' σ' ∧ μ a' σ' < μ a σ ∧ F L a σ = L a' σ') ∨ Q (F L a σ)) : ∀ (n : Nat) (a : A) (σ : Mm), μ a σ < n → I a σ → Q (fx bot n F a σ) := by
  intro n
  induction n with
  | zero => intro a σ hm; omega
  | succ n ih =>
    intro a σ hm hI
    rw [p_fx]
    rcases h (fx bot n F) a σ hI with ⟨a', σ', h1, h2, h3⟩ | hq
    · rw [h3]; exact ih a' σ' (by omega) h1
    · exact hq
theorem lq2 {A B α : Type} {bot : A → B → Mm → Option α} {F : (A → B → Mm → Option α) → A → B → Mm → Option α} (I : A → B → Mm → Prop) (μ : A → B → Mm → Nat) (Q : Option α → Prop)
  (h : ∀ L a b σ, I a b σ → (∃ a' b' σ', I a' b' σ' ∧ μ a' b' σ' < μ a b σ ∧ F L a b σ = L a' b' σ') ∨ Q (F L a b σ)) : ∀ (n : Nat) (a : A) (b : B) (σ : Mm), μ a b σ < n → I a b σ → Q (fx bot n F a b σ) := by
  intro n
  induction n with
  | zero => intro a b σ hm; omega
  | succ n ih =>
    intro a b σ hm hI
    rw [p_fx]
    rcases h (fx bot n F) a b σ hI with ⟨a', b', σ', h1, h2, h3⟩ | hq
    · rw [h3]; exact ih a' b' σ' (by omega) h1
    · exact hq
theorem lq3 {A B C α : Type} {bot : A → B → C → Mm → Option α} {F : (A → B → C → Mm → Option α) → A → B → C → Mm → Option α} (I : A → B → C → Mm → Prop) (μ : A → B → C → Mm → Nat) (Q : Option α → Prop)
  (h : ∀ L a b c σ, I a b c σ → (∃ a' b' c' σ', I a' b' c' σ' ∧ μ a' b' c' σ' < μ a b c σ ∧ F L a b c σ = L a' b' c' σ') ∨ Q (F L a b c σ)) : ∀ (n : Nat) (a : A) (b : B) (c : C) (σ : Mm), μ a b c σ < n → I a b c σ → Q (fx bot n F a b c σ) := by
  intro n
  induction n with
  | zero => intro a b c σ hm; omega
  | succ n ih =>
    intro a b c σ hm hI
    rw [p_fx]
    rcases h (fx bot n F) a b c σ hI with ⟨a', b', c', σ', h1, h2, h3⟩ | hq
    · rw [h3]; exact ih a' b' c' σ' (by omega) h1
    · exact hq
theorem lq4 {A B C D α : Type} {bot : A → B → C → D → Mm → Option α} {F : (A → B → C → D → Mm → Option α) → A → B → C → D → Mm → Option α} (I : A → B → C → D → Mm → Prop) (μ : A → B → C → D → Mm → Nat) (Q : Option α → Prop)
  (h : ∀ L a b c d σ, I a b c d σ → (∃ a' b' c' d' σ', I a' b' c' d' σ' ∧ μ a' b' c' d' σ' < μ a b c d σ ∧ F L a b c d σ = L a' b' c' d' σ') ∨ Q (F L a b c d σ)) : ∀ (n : Nat) (a : A) (b : B) (c : C) (d : D) (σ : Mm), μ a b c d σ < n → I a b c d σ → Q (fx bot n F a b c d σ) := by
  intro n
  induction n with
  | zero => intro a b c d σ hm; omega
  | succ n ih =>
    intro a b c d σ hm hI
    rw [p_fx]
    rcases h (fx bot n F) a b c d σ hI with ⟨a', b', c', d', σ', h1, h2, h3⟩ | hq
    · rw [h3]; exact ih a' b' c' d' σ' (by omega) h1
    · exact hq
/-- a counting loop up to N that always runs to its end -/
theorem lqU {α : Type} {bot : Int32 → Mm → Option α} {F : (Int32 → Mm → Option α) → Int32 → Mm → Option α} (K : Mm → Option α) (N : Nat) (I : Nat → Mm → Prop)
  (he : ∀ L σ, I N σ → F L (nI N) σ = K σ) (hs : ∀ L i σ, i < N → I i σ → ∃ σ', I (i + 1) σ' ∧ F L (nI i) σ = L (nI (i + 1)) σ') :
  ∀ (n i : Nat) (σ : Mm), i ≤ N → N - i < n → I i σ → ∃ σ', I N σ' ∧ fx bot n F (nI i) σ = K σ' := by
  intro n
  induction n with
  | zero => intro i σ _ hm; omega
  | succ n ih =>
    intro i σ hi hm hI
    rw [p_fx]
    by_cases h : i = N
    · subst h; exact ⟨σ, hI, he _ σ hI⟩
    · obtain ⟨σ', h1, h2⟩ := hs (fx bot n F) i σ (by omega) hI
      rw [h2]
      exact ih (i + 1) σ' (by omega) (by omega) h1
/-- a counting loop down to 0 (the counter is one ahead of its place) -/
theorem FU_v : FU = 40000 := rfl
theorem qi_0 : (0 : Int32) = nI 0 := (rfl)
theorem qi_1 : (1 : Int32) = nI 1 := (rfl)
theorem qi_2 : (2 : Int32) = nI 2 := (rfl)
theorem qi_3 : (3 : Int32) = nI 3 := (rfl)
theorem qi_4 : (4 : Int32) = nI 4 := (rfl)
theorem qi_5 : (5 : Int32) = nI 5 := (rfl)
theorem qi_6 : (6 : Int32) = nI 6 := (rfl)
theorem qi_7 : (7 : Int32) = nI 7 := (rfl)
theorem qi_8 : (8 : Int32) = nI 8 := (rfl)
theorem qi_9 : (9 : Int32) = nI 9 := (rfl)
theorem qi_10 : (10 : Int32) = nI 10 := (rfl)
theorem qi_11 : (11 : Int32) = nI 11 := (rfl)
theorem qi_12 : (12 : Int32) = nI 12 := (rfl)
theorem qi_13 : (13 : Int32) = nI 13 := (rfl)
theorem qi_14 : (14 : Int32) = nI 14 := (rfl)
theorem qi_15 : (15 : Int32) = nI 15 := (rfl)
theorem qi_16 : (16 : Int32) = nI 16 := (rfl)
theorem qi_17 : (17 : Int32) = nI 17 := (rfl)
theorem qi_19 : (19 : Int32) = nI 19 := (rfl)
theorem qi_26 : (26 : Int32) = nI 26 := (rfl)
theorem qi_31 : (31 : Int32) = nI 31 := (rfl)
theorem qi_32 : (32 : Int32) = nI 32 := (rfl)
theorem qi_35 : (35 : Int32) = nI 35 := (rfl)
theorem qi_40 : (40 : Int32) = nI 40 := (rfl)
theorem qi_42 : (42 : Int32) = nI 42 := (rfl)
theorem qi_48 : (48 : Int32) = nI 48 := (rfl)
theorem qi_50 : (50 : Int32) = nI 50 := (rfl)
theorem qi_57 : (57 : Int32) = nI 57 := (rfl)
theorem qi_59 : (59 : Int32) = nI 59 := (rfl)
theorem qi_63 : (63 : Int32) = nI 63 := (rfl)
theorem qi_64 : (64 : Int32) = nI 64 := (rfl)
theorem qi_97 : (97 : Int32) = nI 97 := (rfl)
theorem qi_120 : (120 : Int32) = nI 120 := (rfl)
theorem qi_122 : (122 : Int32) = nI 122 := (rfl)
theorem qi_210 : (210 : Int32) = nI 210 := (rfl)
theorem qi_255 : (255 : Int32) = nI 255 := (rfl)
theorem qi_511 : (511 : Int32) = nI 511 := (rfl)
theorem qi_512 : (512 : Int32) = nI 512 := (rfl)
theorem qi_1000 : (1000 : Int32) = nI 1000 := (rfl)
theorem qi_6000 : (6000 : Int32) = nI 6000 := (rfl)
theorem qi_13312 : (13312 : Int32) = nI 13312 := (rfl)
theorem qi_14337 : (14337 : Int32) = nI 14337 := (rfl)
theorem qi_16383 : (16383 : Int32) = nI 16383 := (rfl)
theorem qi_16384 : (16384 : Int32) = nI 16384 := (rfl)
theorem qi_524287 : (524287 : Int32) = nI 524287 := (rfl)
theorem ql_0 : (0 : Int64) = lN 0 := (rfl)
theorem ql_1 : (1 : Int64) = lN 1 := (rfl)
theorem ql_3 : (3 : Int64) = lN 3 := (rfl)
theorem ql_4 : (4 : Int64) = lN 4 := (rfl)
theorem ql_10 : (10 : Int64) = lN 10 := (rfl)
theorem ql_12 : (12 : Int64) = lN 12 := (rfl)
theorem ql_13 : (13 : Int64) = lN 13 := (rfl)
theorem ql_16 : (16 : Int64) = lN 16 := (rfl)
theorem ql_42 : (42 : Int64) = lN 42 := (rfl)
theorem ql_157 : (157 : Int64) = lN 157 := (rfl)
theorem ql_256 : (256 : Int64) = lN 256 := (rfl)
theorem ql_16383 : (16383 : Int64) = lN 16383 := (rfl)
theorem ql_524287 : (524287 : Int64) = lN 524287 := (rfl)
/-- longs compared -/
theorem lc_eq (x y : Int64) : (lg_cmp x y = nI 0) = (x = y) := by
  apply propext
  unfold lg_cmp
  constructor
  · intro h
    split at h
    · exact absurd h (by decide)
    · split at h
      · assumption
      · exact absurd h (by decide)
  · intro h
    subst h
    rw [if_neg (by show ¬ x < x; rw [Int64.lt_iff_toInt_lt]; omega), if_pos rfl]
    rfl
theorem lc_lt (x y : Int64) : (lg_cmp x y < nI 0) = (x < y) := by
  apply propext
  unfold lg_cmp
  show _ ↔ _
  by_cases h1 : y < x
  · rw [if_pos h1]
    constructor
    · intro h; exact absurd h (by decide)
    · intro h; rw [Int64.lt_iff_toInt_lt] at h h1; omega
  · rw [if_neg h1]
    by_cases h2 : x = y
    · rw [if_pos h2]
      constructor
      · intro h; exact absurd h (by decide)
      · intro h; subst h2; exact absurd h h1
    · rw [if_neg h2]
      constructor
      · intro _
        rw [Int64.lt_iff_toInt_lt] at h1 ⊢
        have : x.toInt ≠ y.toInt := fun e => h2 (Int64.toInt_inj.mp e)
        omega
      · intro _; decide
theorem lc_ge (x y : Int64) : (nI 0 ≤ lg_cmp x y) = (y ≤ x) := by
  apply propext
  have h := lc_lt x y
  constructor
  · intro h1
    rw [Int64.le_iff_toInt_le]
    have h2 : ¬ x < y := fun q => by
      rw [← h] at q
      rw [Int32.lt_iff_toInt_lt] at q
      rw [Int32.le_iff_toInt_le] at h1
      omega
    rw [Int64.lt_iff_toInt_lt] at h2
    omega
  · intro h1
    have h2 : ¬ lg_cmp x y < nI 0 := fun q => by
      rw [h] at q
      rw [Int64.lt_iff_toInt_lt] at q
      rw [Int64.le_iff_toInt_le] at h1
      omega
    rw [Int32.lt_iff_toInt_lt] at h2
    rw [Int32.le_iff_toInt_le]
    omega
/-- the pigeonhole -/
theorem pigeon : ∀ (N : Nat) (f : Nat → Nat), (∀ i, i ≤ N → f i < N) → ∃ i j, i < j ∧ j ≤ N ∧ f i = f j := by
  intro N
  induction N with
  | zero => intro f h; exact absurd (h 0 (Nat.le_refl 0)) (Nat.not_lt_zero _)
  | succ N ih =>
    intro f h
    by_cases hc : ∃ i, i ≤ N ∧ f i = f (N + 1)
    · obtain ⟨i, h1, h2⟩ := hc
      exact ⟨i, N + 1, by omega, Nat.le_refl _, h2⟩
    · have hne : ∀ i, i ≤ N → f i ≠ f (N + 1) := fun i hi e => hc ⟨i, hi, e⟩
      obtain ⟨i, j, h1, h2, h3⟩ := ih (fun i => if f i < f (N + 1) then f i else f i - 1) (by
        intro i hi
        have a1 := hne i hi
        have a2 := h i (by omega)
        have a3 := h (N + 1) (Nat.le_refl _)
        show (if f i < f (N + 1) then f i else f i - 1) < N
        split <;> omega)
      refine ⟨i, j, h1, by omega, ?_⟩
      have a1 := hne i (by omega)
      have a2 := hne j h2
      have h3 : (if f i < f (N + 1) then f i else f i - 1) = (if f j < f (N + 1) then f j else f j - 1) := h3
      split at h3 <;> split at h3 <;> omega
theorem i_eq {α : Type} {a b : Nat} {t e : α} {_ : Decidable (nI a = nI b)} (h : a = b) : (if nI a = nI b then t else e) = t := if_pos (h ▸ rfl)
theorem i_ne {α : Type} {a b : Nat} {t e : α} {_ : Decidable (nI a = nI b)} (ha : a < 2147483648) (hb : b < 2147483648) (h : a ≠ b) : (if nI a = nI b then t else e) = e := if_neg (fun q => h ((nI_eq (by omega) (by omega)).mp q))
theorem i_lt {α : Type} {a b : Nat} {t e : α} {_ : Decidable (nI a < nI b)} (hb : b < 2147483648) (h : a < b) : (if nI a < nI b then t else e) = t := if_pos (nI_lt h (by omega))
theorem i_nlt {α : Type} {a b : Nat} {t e : α} {_ : Decidable (nI a < nI b)} (ha : a < 2147483648) (h : b ≤ a) : (if nI a < nI b then t else e) = e := if_neg (nI_nlt h (by omega))
theorem i_le {α : Type} {a b : Nat} {t e : α} {_ : Decidable (nI a ≤ nI b)} (hb : b < 2147483648) (h : a ≤ b) : (if nI a ≤ nI b then t else e) = t := if_pos (nI_le h (by omega))
theorem i_nle {α : Type} {a b : Nat} {t e : α} {_ : Decidable (nI a ≤ nI b)} (ha : a < 2147483648) (h : b < a) : (if nI a ≤ nI b then t else e) = e := if_neg (nI_ge h (by omega))
theorem i_m1eq {α : Type} {a : Nat} {t e : α} {_ : Decidable (nI a = -nI 1)} (ha : a < 2147483648) : (if nI a = -nI 1 then t else e) = e := if_neg (by rw [p_m1eq ha]; exact fun q => q)
theorem i_m1ne0 {α : Type} {b : Nat} {t e : α} {_ : Decidable (-nI 1 = nI b)} (hb : b < 2147483648) : (if -nI 1 = nI b then t else e) = e := if_neg (fun q => by have := p_m1eq hb; rw [q] at this; exact this ▸ rfl)
theorem i_m1lt {α : Type} {b : Nat} {t e : α} {_ : Decidable (-nI 1 < nI b)} (hb : b < 2147483648) : (if -nI 1 < nI b then t else e) = t := if_pos (by rw [p_m1l hb]; trivial)
theorem i_m1le {α : Type} {b : Nat} {t e : α} {_ : Decidable (-nI 1 ≤ nI b)} (hb : b < 2147483648) : (if -nI 1 ≤ nI b then t else e) = t := if_pos (by rw [p_m1ll hb]; trivial)
theorem i_m1gt {α : Type} {a : Nat} {t e : α} {_ : Decidable (nI a < -nI 1)} (ha : a < 2147483648) : (if nI a < -nI 1 then t else e) = e := if_neg (by rw [p_m1g ha]; exact fun q => q)
theorem i_m1ge {α : Type} {a : Nat} {t e : α} {_ : Decidable (nI a ≤ -nI 1)} (ha : a < 2147483648) : (if nI a ≤ -nI 1 then t else e) = e := if_neg (by rw [p_m1gl ha]; exact fun q => q)
