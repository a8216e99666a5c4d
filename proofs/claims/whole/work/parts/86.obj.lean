/-! PURE: the object that both sides mean -/
abbrev Ob : Type := Su × (Bool × Su) × (Nat × (Nat → Nat)) × ((Nat → Nat) × (Nat → Nat) × (Nat → Nat → Int64)) × (Nat → Int32)
def oS (A : Ob) : Su := A.1
def oB (A : Ob) : Bool := A.2.1.1
def oK (A : Ob) : Su := A.2.1.2
def oN (A : Ob) : Nat := A.2.2.1.1
def oT (A : Ob) : Nat → Nat := A.2.2.1.2
def oQ (A : Ob) : Nat → Nat := A.2.2.2.1.1
def oZ (A : Ob) : Nat → Nat := A.2.2.2.1.2.1
def oV (A : Ob) : Nat → Nat → Int64 := A.2.2.2.1.2.2
def oE (A : Ob) : Nat → Int32 := A.2.2.2.2
def uS (A : Ob) (S : Su) : Ob := (S, A.2)
def uK (A : Ob) (b : Bool) (K : Su) : Ob := (A.1, (b, K), A.2.2)
def uT (A : Ob) (n : Nat) (t : Nat → Nat) : Ob := (A.1, A.2.1, (n, t), A.2.2.2)
def uX (A : Ob) (q z : Nat → Nat) (v : Nat → Nat → Int64) : Ob := (A.1, A.2.1, A.2.2.1, (q, z, v), A.2.2.2.2)
def uE (A : Ob) (e : Nat → Int32) : Ob := (A.1, A.2.1, A.2.2.1, A.2.2.2.1, e)
def tel (A : Ob) (e : Nat) : Ob := uE A (upq (oE A) e (oE A e + nI 1))
def s7 (e : Nat → Int32) : Nat → Int32
  | 0 => nI 0
  | k + 1 => s7 e k + e k
def OV (A : Ob) : Prop := SuV (oS A) ∧ (oB A = true → SuV (oK A)) ∧ (oN A ≤ 120 ∧ ∀ i, i < oN A → oT A i < 256) ∧ ∀ s, s < 4 → oZ A s ≤ 40 ∧ (oQ A s = 0 ∨ oQ A s = 8 ∨ oQ A s = 16 ∨ oQ A s = 64)
/-- what the class knows -/
def KnC (S : Su) (σ : Mm) : Prop := SlR σ ∧ (σ.1 6 6 = nI 0 ∨ (σ.1 6 6 = nI 1 ∧ TkC (PgOf S noX) σ)) ∧ (σ.1 6 7 = nI 0 ∨ (σ.1 6 7 = nI 1 ∧ RoC 28 (ords S noX) σ))
def ShC (A : Ob) (σ : Mm) : Prop := ∀ s, s < 4 → σ.1 (40 + 2 * s) 0 = nI (oQ A s) ∧ σ.1 (40 + 2 * s) 1 = nI (oZ A s) ∧ ∀ i, i < oZ A s → σ.2 (41 + 2 * s) i = oV A s i
def CnC (A : Ob) (σ : Mm) : Prop := (∀ e, e < 7 → σ.1 2 e = oE A e) ∧ σ.1 1 1 = s7 (oE A) 7
def AC (A : Ob) (σ : Mm) : Prop := OV A ∧ SeC (oS A) 7 σ ∧ KnC (oS A) σ ∧ σ.1 0 6 = bI (oB A) ∧ (oB A = true → SeC (oK A) 31 σ) ∧ TpC (oT A) (oN A) σ ∧ ShC A σ ∧ CnC A σ
def FrC (σ τ : Mm) : Prop := ∀ k, 48 ≤ k → τ.1 k = σ.1 k ∧ τ.2 k = σ.2 k
def FrM (σ τ : Mm) : Prop := ∀ k, k < 48 → τ.1 k = σ.1 k ∧ τ.2 k = σ.2 k
theorem FrC_of {L : List Nat} {σ τ : Mm} (h : Fr L σ τ) (hL : ∀ k, k ∈ L → k < 48) : FrC σ τ := fun k hk => ⟨h.r1 k (fun q => by have := hL k q; omega), h.r2 k (fun q => by have := hL k q; omega)⟩
theorem FrM_of {L : List Nat} {σ τ : Mm} (h : Fr L σ τ) (hL : ∀ k, k ∈ L → 48 ≤ k) : FrM σ τ := fun k hk => ⟨h.r1 k (fun q => by have := hL k q; omega), h.r2 k (fun q => by have := hL k q; omega)⟩
theorem FrC_rf (σ : Mm) : FrC σ σ := fun _ _ => ⟨rfl, rfl⟩
theorem FrM_rf (σ : Mm) : FrM σ σ := fun _ _ => ⟨rfl, rfl⟩
theorem FrC_tr {σ τ υ : Mm} (h : FrC σ τ) (g : FrC τ υ) : FrC σ υ := fun k hk => ⟨(g k hk).1.trans (h k hk).1, (g k hk).2.trans (h k hk).2⟩
theorem FrM_tr {σ τ υ : Mm} (h : FrM σ τ) (g : FrM τ υ) : FrM σ υ := fun k hk => ⟨(g k hk).1.trans (h k hk).1, (g k hk).2.trans (h k hk).2⟩
theorem KnC_fr {S : Su} {σ τ : Mm} (h : KnC S σ) (e : FrM σ τ) : KnC S τ := by
  obtain ⟨h1, h2, h3⟩ := h
  refine ⟨SlR_of h1 (e 20 (by omega)).1, ?_, ?_⟩
  · rw [(e 6 (by omega)).1]
    rcases h2 with h | ⟨h, g⟩
    · exact Or.inl h
    · exact Or.inr ⟨h, TkC_of g (e 18 (by omega)).1 (e 19 (by omega)).2 (e 20 (by omega)).1 (e 21 (by omega)).1 (e 22 (by omega)).1 (e 23 (by omega)).1 (e 26 (by omega)).1 (e 27 (by omega)).1⟩
  · rw [(e 6 (by omega)).1]
    rcases h3 with h | ⟨h, g⟩
    · exact Or.inl h
    · exact Or.inr ⟨h, RoC_of g (by rw [(e 28 (by omega)).1]) (e 29 (by omega)).1⟩
theorem TpC_of {t : Nat → Nat} {n : Nat} {σ τ : Mm} (h : TpC t n σ) (e4 : τ.1 4 = σ.1 4) (e5 : τ.1 5 = σ.1 5) : TpC t n τ := ⟨h.1, by rw [e4]; exact h.2.1, fun i hi => by rw [e5]; exact h.2.2 i hi⟩
theorem SeC_31 {K : Su} {σ τ : Mm} (h : SeC K 31 σ) (e : ∀ k, 31 ≤ k → k ≤ 36 → τ.1 k = σ.1 k) : SeC K 31 τ := SeC_of h (e 31 (by omega) (by omega)) (e 32 (by omega) (by omega)) (e 33 (by omega) (by omega)) (e 34 (by omega) (by omega)) (e 35 (by omega) (by omega)) (e 36 (by omega) (by omega))
theorem ShC_of {A : Ob} {σ τ : Mm} (h : ShC A σ) (e : ∀ k, 40 ≤ k → k ≤ 47 → τ.1 k = σ.1 k ∧ τ.2 k = σ.2 k) : ShC A τ := by
  intro s hs
  rw [(e (40 + 2 * s) (by omega) (by omega)).1, (e (41 + 2 * s) (by omega) (by omega)).2]
  exact h s hs
theorem CnC_of {A : Ob} {σ τ : Mm} (h : CnC A σ) (e1 : τ.1 1 = σ.1 1) (e2 : τ.1 2 = σ.1 2) : CnC A τ := by
  unfold CnC
  rw [e1, e2]
  exact h
theorem AC_fr {A : Ob} {σ τ : Mm} (h : AC A σ) (e : FrM σ τ) : AC A τ := by
  obtain ⟨h1, h2, h3, h4, h5, h6, h7, h8⟩ := h
  exact ⟨h1, SeC_of h2 (e 7 (by omega)).1 (e 8 (by omega)).1 (e 9 (by omega)).1 (e 10 (by omega)).1 (e 11 (by omega)).1 (e 12 (by omega)).1, KnC_fr h3 e, by rw [(e 0 (by omega)).1]; exact h4, fun q => SeC_31 (h5 q) (fun k _ _ => (e k (by omega)).1), TpC_of h6 (e 4 (by omega)).1 (e 5 (by omega)).1, ShC_of h7 (fun k _ _ => e k (by omega)), CnC_of h8 (e 1 (by omega)).1 (e 2 (by omega)).1⟩
def chL : List Nat := [3, 6, 13, 14, 15, 16, 17, 18, 19, 20, 21, 22, 23, 24, 25, 26, 27, 28, 29, 30, 37, 38]
/-- what the class works with has changed -/
theorem AC_ch {A : Ob} {σ τ : Mm} (h : AC A σ) (hF : Fr chL σ τ) (hk : KnC (oS A) τ) : AC A τ := by
  obtain ⟨h1, h2, h3, h4, h5, h6, h7, h8⟩ := h
  have q : ∀ k, 31 ≤ k → k ≠ 37 → k ≠ 38 → k ∉ chL := fun k a b c d => by
    simp only [chL, List.mem_cons, List.not_mem_nil, or_false] at d
    omega
  exact ⟨h1, SeC_7 h2 hF (by decide) (by decide) (by decide) (by decide) (by decide) (by decide), hk, by rw [hF.r1 0 (by decide)]; exact h4, fun b => SeC_31 (h5 b) (fun k a1 a2 => hF.r1 k (q k a1 (by omega) (by omega))), TpC_of h6 (hF.r1 4 (by decide)) (hF.r1 5 (by decide)), ShC_of h7 (fun k a1 a2 => ⟨hF.r1 k (q k (by omega) (by omega) (by omega)), hF.r2 k (q k (by omega) (by omega) (by omega))⟩), CnC_of h8 (hF.r1 1 (by decide)) (hF.r1 2 (by decide))⟩
theorem chL_48 : ∀ k, k ∈ chL → k < 48 := by decide
/-- the class tells what it found -/
theorem s7_up {e : Nat → Int32} {k : Nat} (v : Int32) : ∀ n, (n ≤ k → s7 (upq e k (e k + v)) n = s7 e n) ∧ (k < n → s7 (upq e k (e k + v)) n = s7 e n + v) := by
  intro n
  induction n with
  | zero => exact ⟨fun _ => rfl, fun h => by omega⟩
  | succ n ih =>
    refine ⟨fun h => ?_, fun h => ?_⟩
    · show s7 (upq e k (e k + v)) n + upq e k (e k + v) n = s7 e n + e n
      rw [ih.1 (by omega), upq_n (by omega)]
    · show s7 (upq e k (e k + v)) n + upq e k (e k + v) n = s7 e n + e n + v
      by_cases c : n = k
      · subst c
        rw [ih.1 (Nat.le_refl _), upq_s, Int32.add_assoc]
      · rw [ih.2 (by omega), upq_n c, Int32.add_assoc, Int32.add_assoc, Int32.add_comm v (e n)]
theorem OV_tel {A : Ob} {e : Nat} (h : OV A) : OV (tel A e) := h
def er7 (e : Nat) : Int32 := (-1000000001 : Int32) - nI e
theorem tell_eq {A : Ob} {σ : Mm} {e : Nat} (h : AC A σ) (he : e < 7) : ∃ σ', f_X0_tell (nI e) σ = some (er7 e, σ') ∧ AC (tel A e) σ' ∧ FrC σ σ' := by
  obtain ⟨h1, h2, h3, h4, h5, h6, h7, h8⟩ := h
  unfold f_X0_tell
  rw [p_ck _ he (by omega), p_ck _ he (by omega), p_ix (a := e) (by omega), qi_1, p_nm, r_sI1 (by decide), p_nm]
  have hF : Fr [1, 2] σ (sI (sI σ 2 e (σ.1 2 e + nI 1)) 1 1 (σ.1 1 1 + nI 1)) := ((Fr.rf _ _).sI (by decide)).sI (by decide)
  have q : ∀ k, 3 ≤ k → k ∉ [1, 2] := fun k a d => by
    simp only [List.mem_cons, List.not_mem_nil, or_false] at d
    omega
  refine ⟨_, rfl, ⟨OV_tel h1, SeC_7 h2 hF (by decide) (by decide) (by decide) (by decide) (by decide) (by decide), ?_, ?_, fun b => SeC_31 (h5 b) (fun k a1 a2 => hF.r1 k (q k (by omega))), TpC_of h6 (hF.r1 4 (by decide)) (hF.r1 5 (by decide)), ShC_of h7 (fun k a1 a2 => ⟨hF.r1 k (q k (by omega)), hF.r2 k (q k (by omega))⟩), fun d hd => ?_, ?_⟩, FrC_of hF (by decide)⟩
  · obtain ⟨k1, k2, k3⟩ := h3
    refine ⟨SlR_of k1 (hF.r1 20 (by decide)), ?_, ?_⟩
    · rw [hF.r1 6 (by decide)]
      rcases k2 with k | ⟨k, g⟩
      · exact Or.inl k
      · exact Or.inr ⟨k, TkC_fr g hF (by decide)⟩
    · rw [hF.r1 6 (by decide)]
      rcases k3 with k | ⟨k, g⟩
      · exact Or.inl k
      · exact Or.inr ⟨k, RoC_of g (by rw [hF.r1 28 (by decide)]) (hF.r1 29 (by decide))⟩
  · rw [hF.r1 0 (by decide)]; exact h4
  · show _ = upq (oE A) e (oE A e + nI 1) d
    rw [r_sI1 (by decide)]
    by_cases c : d = e
    · rw [c, r_sI0, upq_s, h8.1 e he]
    · rw [r_sIj c, upq_n c]; exact h8.1 d hd
  · show _ = s7 (upq (oE A) e (oE A e + nI 1)) 7
    rw [r_sI0, (s7_up (nI 1) 7).2 he, h8.2]
