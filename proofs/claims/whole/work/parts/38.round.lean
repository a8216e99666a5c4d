/-! PURE: rounds -/
abbrev Ks : Type := (Nat → Nat) × (Nat → Nat) × Nat
def kst (G : Nat → Option Nat) (d : Nat) (s : Ks) : Ks := match G d with
  | none => s
  | some t => if s.1 t - 1 = 0 then (upq s.1 t (s.1 t - 1), upq s.2.1 s.2.2 t, s.2.2 + 1) else (upq s.1 t (s.1 t - 1), s.2.1, s.2.2)
def ktk (G : Nat → Option Nat) (i : Nat) : Nat → Ks → Ks
  | 0, s => s
  | k + 1, s => kst G (6 * i + k) (ktk G i k s)
def deg (G : Nat → Option Nat) (t : Nat) : Nat → Nat
  | 0 => 0
  | d + 1 => deg G t d + (if G d = some t then 1 else 0)
def k0 (G : Nat → Option Nat) (n : Nat) : Ks := (fun t => deg G t (6 * n), fun _ => 0, if deg G 0 (6 * n) = 0 then 1 else 0)
def klp (G : Nat → Option Nat) (n : Nat) : Nat → Ks
  | 0 => k0 G n
  | j + 1 => if j < (klp G n j).2.2 then ktk G ((klp G n j).2.1 j) 6 (klp G n j) else klp G n j
def rd (G : Nat → Option Nat) (ep : Nat → Bool) (t : Nat) : Nat → Nat
  | 0 => 0
  | d + 1 => rd G ep t d + (if G d = some t ∧ ep d = false then 1 else 0)
theorem rd_deg (G : Nat → Option Nat) (t : Nat) : ∀ N, rd G (fun _ => false) t N = deg G t N := by
  intro N
  induction N with
  | zero => rfl
  | succ N ih =>
    rw [rd, deg, ih]
    by_cases h : G N = some t
    · rw [if_pos ⟨h, rfl⟩, if_pos h]
    · rw [if_neg (fun q => h q.1), if_neg h]
theorem rd_congr {G : Nat → Option Nat} {ep ep' : Nat → Bool} {t : Nat} : ∀ N, (∀ d, d < N → G d = some t → ep d = ep' d) → rd G ep t N = rd G ep' t N := by
  intro N
  induction N with
  | zero => intro _; rfl
  | succ N ih =>
    intro h
    rw [rd, rd, ih (fun d hd => h d (by omega))]
    by_cases hg : G N = some t
    · rw [h N (by omega) hg]
    · rw [if_neg (fun q => hg q.1), if_neg (fun q => hg q.1)]
theorem rd_up {G : Nat → Option Nat} {ep : Nat → Bool} {t d : Nat} (hg : G d = some t) (he : ep d = false) : ∀ N, d < N → rd G (upq ep d true) t N + 1 = rd G ep t N := by
  intro N
  induction N with
  | zero => intro h; omega
  | succ N ih =>
    intro h
    rw [rd, rd]
    by_cases e : d = N
    · subst e
      rw [upq_s, if_neg (show ¬ (G d = some t ∧ true = false) from fun q => by cases q.2), if_pos (show G d = some t ∧ ep d = false from ⟨hg, he⟩), rd_congr (ep' := ep) d (fun j hj _ => upq_n (by omega))]
    · rw [upq_n (by omega), ← ih (by omega)]
      omega
/-- what holds while states are taken away -/
def KI (G : Nat → Option Nat) (n : Nat) (ep : Nat → Bool) (s : Ks) : Prop := (∀ t, t < n → s.1 t = rd G ep t (6 * n)) ∧ (∀ a, a < s.2.2 → s.2.1 a < n ∧ s.1 (s.2.1 a) = 0) ∧ (∀ a b, a < s.2.2 → b < s.2.2 → s.2.1 a = s.2.1 b → a = b)
theorem KI_le {G : Nat → Option Nat} {n : Nat} {ep : Nat → Bool} {s : Ks} (h : KI G n ep s) : s.2.2 ≤ n := by
  apply Nat.not_lt.mp
  intro q
  obtain ⟨i, j, h1, h2, h3⟩ := pigeon n s.2.1 (fun i hi => (h.2.1 i (by omega)).1)
  have := h.2.2 i j (by omega) (by omega) h3
  omega
theorem KI_st {G : Nat → Option Nat} {n d : Nat} {ep : Nat → Bool} {s : Ks} (hG : ∀ d t, d < 6 * n → G d = some t → t < n) (h : KI G n ep s) (hd : d < 6 * n) (he : ep d = false) : KI G n (upq ep d true) (kst G d s) ∧ (∀ t, G d = some t → 1 ≤ s.1 t) ∧ (∀ a, a < s.2.2 → (kst G d s).2.1 a = s.2.1 a) ∧ s.2.2 ≤ (kst G d s).2.2 := by
  obtain ⟨h1, h2, h3⟩ := h
  unfold kst
  cases hg : G d with
  | none =>
    refine ⟨⟨fun t ht => ?_, h2, h3⟩, (fun t q => by cases q), fun _ _ => rfl, Nat.le_refl _⟩
    rw [h1 t ht]
    exact rd_congr _ (fun j hj hj2 => (upq_n (fun e => by rw [e, hg] at hj2; cases hj2)).symm)
  | some t =>
    have ht := hG d t hd hg
    have hup := rd_up hg he (6 * n) hd
    have hpos : 1 ≤ s.1 t := by rw [h1 t ht]; omega
    have hqt : ∀ a, a < s.2.2 → s.2.1 a ≠ t := fun a ha e => by have := (h2 a ha).2; rw [e] at this; omega
    have hco : ∀ u, u < n → upq s.1 t (s.1 t - 1) u = rd G (upq ep d true) u (6 * n) := by
      intro u hu
      by_cases e : u = t
      · rw [e, upq_s, h1 t ht]; omega
      · rw [upq_n e, h1 u hu]
        exact rd_congr _ (fun j hj hj2 => (upq_n (fun e2 => by rw [e2, hg] at hj2; simp only [Option.some.injEq] at hj2; exact e hj2.symm)).symm)
    have h1t : ∀ t', some t = some t' → 1 ≤ s.1 t' := fun t' q => by simp only [Option.some.injEq] at q; rw [← q]; exact hpos
    simp only
    by_cases hz : s.1 t - 1 = 0
    · rw [if_pos hz]
      refine ⟨⟨hco, fun a ha => ?_, fun a b ha hb e => ?_⟩, h1t, fun a ha => upq_n (by omega), Nat.le_succ _⟩
      · have ha : a < s.2.2 + 1 := ha
        show upq s.2.1 s.2.2 t a < n ∧ upq s.1 t (s.1 t - 1) (upq s.2.1 s.2.2 t a) = 0
        by_cases e : a = s.2.2
        · rw [e, upq_s, upq_s]; exact ⟨ht, hz⟩
        · rw [upq_n e, upq_n (hqt a (by omega))]; exact h2 a (by omega)
      · have ha : a < s.2.2 + 1 := ha
        have hb : b < s.2.2 + 1 := hb
        have e : upq s.2.1 s.2.2 t a = upq s.2.1 s.2.2 t b := e
        by_cases e1 : a = s.2.2
        · by_cases e2 : b = s.2.2
          · omega
          · rw [e1, upq_s, upq_n e2] at e
            exact absurd e.symm (hqt b (by omega))
        · by_cases e2 : b = s.2.2
          · rw [e2, upq_s, upq_n e1] at e
            exact absurd e (hqt a (by omega))
          · rw [upq_n e1, upq_n e2] at e
            exact h3 a b (by omega) (by omega) e
    · rw [if_neg hz]
      refine ⟨⟨hco, fun a ha => ?_, h3⟩, h1t, fun _ _ => rfl, Nat.le_refl _⟩
      show s.2.1 a < n ∧ upq s.1 t (s.1 t - 1) (s.2.1 a) = 0
      rw [upq_n (hqt a ha)]
      exact h2 a ha
/-- all edges of a state: ep' is ep with edges 6 i .. 6 i + k - 1 done -/
def epk (ep : Nat → Bool) (i k d : Nat) : Bool := ep d || decide (d / 6 = i ∧ d % 6 < k)
theorem KI_tk {G : Nat → Option Nat} {n i : Nat} {ep : Nat → Bool} {s : Ks} (hG : ∀ d t, d < 6 * n → G d = some t → t < n) (h : KI G n ep s) (hi : i < n) (he : ∀ k, k < 6 → ep (6 * i + k) = false) : ∀ k, k ≤ 6 → KI G n (epk ep i k) (ktk G i k s) ∧ (∀ a, a < s.2.2 → (ktk G i k s).2.1 a = s.2.1 a) ∧ s.2.2 ≤ (ktk G i k s).2.2 := by
  intro k
  induction k with
  | zero =>
    intro _
    have e : epk ep i 0 = ep := by
      funext d
      unfold epk
      rw [decide_eq_false (fun q => by omega), Bool.or_false]
    rw [e]
    exact ⟨h, fun _ _ => rfl, Nat.le_refl _⟩
  | succ k ih =>
    intro hk
    obtain ⟨a1, a2, a3⟩ := ih (by omega)
    have hf : epk ep i k (6 * i + k) = false := by
      unfold epk
      rw [he k (by omega), decide_eq_false (fun q => by omega)]; rfl
    obtain ⟨b1, b2, b3, b4⟩ := KI_st hG a1 (show 6 * i + k < 6 * n by omega) hf
    have e : upq (epk ep i k) (6 * i + k) true = epk ep i (k + 1) := by
      funext d
      by_cases ed : d = 6 * i + k
      · rw [ed, upq_s]
        unfold epk
        rw [decide_eq_true (by omega), Bool.or_true]
      · rw [upq_n ed]
        unfold epk
        congr 1
        rw [decide_eq_decide]
        omega
    rw [e] at b1
    exact ⟨b1, fun a ha => by rw [ktk, b3 a (by omega)]; exact a2 a ha, by rw [ktk]; omega⟩
def epj (q : Nat → Nat) (j d : Nat) : Bool := decide (∃ a, a < j ∧ q a = d / 6)
theorem KI_lp {G : Nat → Option Nat} {n : Nat} (hn : 0 < n) (hG : ∀ d t, d < 6 * n → G d = some t → t < n) : ∀ j, j ≤ (klp G n j).2.2 ∨ (klp G n j).2.2 < j → (j ≤ (klp G n j).2.2 → KI G n (epj (klp G n j).2.1 j) (klp G n j)) := by
  intro j
  induction j with
  | zero =>
    intro _ _
    have e : epj (klp G n 0).2.1 0 = fun _ => false := by
      funext d
      exact decide_eq_false (fun ⟨a, ha, _⟩ => by omega)
    rw [e]
    refine ⟨fun t _ => (rd_deg G t _).symm, fun a ha => ?_, fun a b ha hb _ => ?_⟩
    · have ha : a < (if deg G 0 (6 * n) = 0 then 1 else 0) := ha
      split at ha
      · rename_i hz
        exact ⟨hn, hz⟩
      · omega
    · have ha : a < (if deg G 0 (6 * n) = 0 then 1 else 0) := ha
      have hb : b < (if deg G 0 (6 * n) = 0 then 1 else 0) := hb
      split at ha <;> split at hb <;> omega
  | succ j ih =>
    intro _ hj
    rw [klp] at hj ⊢
    by_cases c : j < (klp G n j).2.2
    · rw [if_pos c] at hj ⊢
      have hK := ih (Or.inl (by omega)) (by omega)
      have hi := (hK.2.1 j c).1
      have he : ∀ k, k < 6 → epj (klp G n j).2.1 j (6 * (klp G n j).2.1 j + k) = false := by
        intro k hk
        apply decide_eq_false
        rintro ⟨a, ha, he⟩
        rw [show (6 * (klp G n j).2.1 j + k) / 6 = (klp G n j).2.1 j by omega] at he
        have := hK.2.2 a j (by omega) c he
        omega
      obtain ⟨t1, t2, t3⟩ := KI_tk hG hK hi he 6 (by omega)
      have e : epk (epj (klp G n j).2.1 j) ((klp G n j).2.1 j) 6 = epj (ktk G ((klp G n j).2.1 j) 6 (klp G n j)).2.1 (j + 1) := by
        funext d
        unfold epk epj
        rw [← Bool.decide_or, decide_eq_decide]
        constructor
        · rintro (⟨a, ha, he⟩ | ⟨h1, _⟩)
          · exact ⟨a, by omega, by rw [t2 a (by omega)]; exact he⟩
          · exact ⟨j, by omega, by rw [t2 j c]; exact h1.symm⟩
        · rintro ⟨a, ha, he⟩
          by_cases ea : a = j
          · right
            rw [ea, t2 j c] at he
            exact ⟨he.symm, Nat.mod_lt _ (by omega)⟩
          · left
            exact ⟨a, by omega, by rw [← t2 a (by omega)]; exact he⟩
      rw [← e]
      exact t1
    · rw [if_neg c] at hj
      omega
theorem klp_KI {G : Nat → Option Nat} {n j : Nat} (hn : 0 < n) (hG : ∀ d t, d < 6 * n → G d = some t → t < n) (h : j ≤ (klp G n j).2.2) : KI G n (epj (klp G n j).2.1 j) (klp G n j) := KI_lp hn hG j (Or.inl h) h
theorem klp_frz {G : Nat → Option Nat} {n j : Nat} (h : (klp G n j).2.2 ≤ j) : ∀ k, klp G n (j + k) = klp G n j := by
  intro k
  induction k with
  | zero => rfl
  | succ k ih =>
    show (if j + k < (klp G n (j + k)).2.2 then _ else _) = _
    rw [ih, if_neg (by omega)]
    exact ih
def rnd (P : Pg) : Bool := decide ((klp (bG (bEnd P)) (bN (bEnd P)) (bN (bEnd P))).2.2 < bN (bEnd P))
theorem deg_le (G : Nat → Option Nat) (t : Nat) : ∀ N, deg G t N ≤ N := by
  intro N
  induction N with
  | zero => exact Nat.le_refl _
  | succ N ih => rw [deg]; split <;> omega
/-- the class -/
theorem takeAway_eq {G : Nat → Option Nat} {n i : Nat} {ep : Nat → Bool} {s : Ks} {σ : Mm} (hn : n ≤ 6000) (hG : ∀ d t, d < 6 * n → G d = some t → t < n) (hK : KI G n ep s) (hi : i < n) (he : ∀ k, k < 6 → ep (6 * i + k) = false) (h23 : ∀ d, d < 6 * n → σ.1 23 d = iO (G d)) (h24 : ∀ t, t < n → σ.1 24 t = nI (s.1 t)) (h25 : ∀ a, a < s.2.2 → σ.1 25 a = nI (s.2.1 a)) (hc : ∀ t, t < n → s.1 t ≤ 36000) :
    ∃ σ', f_X9_takeAway (nI i) (nI s.2.2) σ = some (nI (ktk G i 6 s).2.2, σ') ∧ (∀ t, t < n → σ'.1 24 t = nI ((ktk G i 6 s).1 t)) ∧ (∀ a, a < (ktk G i 6 s).2.2 → σ'.1 25 a = nI ((ktk G i 6 s).2.1 a)) ∧ (∀ t, t < n → (ktk G i 6 s).1 t ≤ 36000) ∧ Fr [24, 25] σ σ' := by
  unfold f_X9_takeAway
  simp only [qi_0, qi_1, qi_2, qi_3, qi_4, qi_5, qi_6, qi_7, qi_8, qi_9, qi_10, qi_11, qi_12, qi_13, qi_14, qi_15, qi_16, qi_17, qi_19, qi_26, qi_31, qi_32, qi_35, qi_40, qi_42, qi_48, qi_50, qi_57, qi_59, qi_63, qi_64, qi_97, qi_120, qi_122, qi_210, qi_255, qi_511, qi_512, qi_1000, qi_6000, qi_13312, qi_14337, qi_16383, qi_16384, qi_524287]
  rw [p_nm, pk_mul]
  refine lq2 (F := f_X9_takeAway_L8 (nI i)) (fun a b τ => ∃ k, k ≤ 6 ∧ a = nI (ktk G i k s).2.2 ∧ b = nI (i * 6 + k) ∧ (∀ t, t < n → τ.1 24 t = nI ((ktk G i k s).1 t)) ∧ (∀ a, a < (ktk G i k s).2.2 → τ.1 25 a = nI ((ktk G i k s).2.1 a)) ∧ (∀ t, t < n → (ktk G i k s).1 t ≤ 36000) ∧ Fr [24, 25] σ τ) (fun _ b _ => 36001 - ix b) (fun o => ∃ σ', o = some (nI (ktk G i 6 s).2.2, σ') ∧ (∀ t, t < n → σ'.1 24 t = nI ((ktk G i 6 s).1 t)) ∧ (∀ a, a < (ktk G i 6 s).2.2 → σ'.1 25 a = nI ((ktk G i 6 s).2.1 a)) ∧ (∀ t, t < n → (ktk G i 6 s).1 t ≤ 36000) ∧ Fr [24, 25] σ σ') ?_ FU _ _ σ ?_ ⟨0, by omega, rfl, rfl, h24, h25, hc, Fr.rf _ _⟩
  · rintro L a b τ ⟨k, hk, rfl, rfl, u1, u2, u3, u4⟩
    unfold f_X9_takeAway_L8 f_X9_takeAway_72
    simp only [qi_0, qi_1, qi_2, qi_3, qi_4, qi_5, qi_6, qi_7, qi_8, qi_9, qi_10, qi_11, qi_12, qi_13, qi_14, qi_15, qi_16, qi_17, qi_19, qi_26, qi_31, qi_32, qi_35, qi_40, qi_42, qi_48, qi_50, qi_57, qi_59, qi_63, qi_64, qi_97, qi_120, qi_122, qi_210, qi_255, qi_511, qi_512, qi_1000, qi_6000, qi_13312, qi_14337, qi_16383, qi_16384, qi_524287, nI_add, pk_mul]
    by_cases c : k = 6
    · right
      subst c
      rw [i_le (by omega) (by omega)]
      exact ⟨τ, rfl, u1, u2, u3, u4⟩
    · left
      have h6 : i * 6 + k = 6 * i + k := by omega
      obtain ⟨a1, a2, a3⟩ := KI_tk hG hK hi he k (by omega)
      have hf : epk ep i k (6 * i + k) = false := by
        unfold epk
        rw [he k (by omega), decide_eq_false (fun q => by omega)]; rfl
      obtain ⟨b1, b2, b3, b4⟩ := KI_st hG a1 (show 6 * i + k < 6 * n by omega) hf
      have hle := KI_le b1
      have hle0 := KI_le a1
      have hkt : ktk G i (k + 1) s = kst G (6 * i + k) (ktk G i k s) := rfl
      rw [i_nle (by omega) (by omega), p_ck _ (by omega) (by omega), p_ix (a := i * 6 + k) (by omega), u4.r1 23 (by decide), h23 _ (by omega), h6, p_nm]
      generalize ktk G i k s = z at *
      cases hg : G (6 * i + k) with
      | none =>
        have ez : kst G (6 * i + k) z = z := by unfold kst; rw [hg]
        rw [ez] at hkt
        rw [show iO none = -nI 1 from rfl, i_m1lt (by omega), p_nm]
        refine ⟨nI z.2.2, nI (i * 6 + (k + 1)), τ, ⟨k + 1, by omega, by rw [hkt], rfl, by rw [hkt]; exact u1, by rw [hkt]; exact u2, by rw [hkt]; exact u3, u4⟩, ?_, by rw [show 6 * i + k + 1 = i * 6 + (k + 1) by omega]⟩
        rw [p_ix (by omega)]; omega
      | some t =>
        have ht := hG _ t (by omega) hg
        have hpos := b2 t hg
        have h36 := u3 t ht
        rw [show iO (some t) = nI t from rfl, i_nlt (by omega) (by omega), p_ck _ (by omega) (by omega), p_ck _ (by omega) (by omega), p_ix (a := t) (by omega), u1 t ht, pk_sub hpos, p_nm, p_ck _ (by omega) (by omega), r_sI0]
        have hm24 : ∀ u, u < n → (sI τ 24 t (nI (z.1 t - 1))).1 24 u = nI (upq z.1 t (z.1 t - 1) u) := by
          intro u hu
          by_cases e : u = t
          · rw [e, r_sI0, upq_s]
          · rw [r_sIj e, upq_n e]; exact u1 u hu
        have hmb : ∀ u, u < n → upq z.1 t (z.1 t - 1) u ≤ 36000 := by
          intro u hu
          by_cases e : u = t
          · rw [e, upq_s]; omega
          · rw [upq_n e]; exact u3 u hu
        by_cases hz : z.1 t - 1 = 0
        · have ez : kst G (6 * i + k) z = (upq z.1 t (z.1 t - 1), upq z.2.1 z.2.2 t, z.2.2 + 1) := by unfold kst; rw [hg]; simp only; rw [if_pos hz]
          rw [ez] at hkt hle
          have hle : z.2.2 + 1 ≤ n := hle
          rw [i_eq hz, i_nle (by omega) (by omega), p_ck _ (by omega) (by omega), p_ix (a := z.2.2) (by omega), p_nm, p_nm, p_nm]
          refine ⟨nI (z.2.2 + 1), nI (i * 6 + (k + 1)), sI (sI τ 24 t (nI (z.1 t - 1))) 25 z.2.2 (nI t), ⟨k + 1, by omega, by rw [hkt], rfl, ?_, ?_, by rw [hkt]; exact hmb, (u4.sI (by decide)).sI (by decide)⟩, ?_, by rw [show 6 * i + k + 1 = i * 6 + (k + 1) by omega]⟩
          · rw [hkt]; intro u hu; rw [r_sI1 (by decide)]; exact hm24 u hu
          · rw [hkt]
            intro a (ha : a < z.2.2 + 1)
            show _ = nI (upq z.2.1 z.2.2 t a)
            by_cases e : a = z.2.2
            · rw [e, r_sI0, upq_s]
            · rw [r_sIj e, upq_n e, r_sI1 (by decide)]; exact u2 a (by omega)
          · rw [p_ix (by omega)]; omega
        · have ez : kst G (6 * i + k) z = (upq z.1 t (z.1 t - 1), z.2.1, z.2.2) := by unfold kst; rw [hg]; simp only; rw [if_neg hz]
          rw [ez] at hkt
          rw [i_ne (by omega) (by omega) hz, p_nm]
          refine ⟨nI z.2.2, nI (i * 6 + (k + 1)), sI τ 24 t (nI (z.1 t - 1)), ⟨k + 1, by omega, by rw [hkt], rfl, by rw [hkt]; exact hm24, ?_, by rw [hkt]; exact hmb, u4.sI (by decide)⟩, ?_, by rw [show 6 * i + k + 1 = i * 6 + (k + 1) by omega]⟩
          · rw [hkt]; intro a ha; rw [r_sI1 (by decide)]; exact u2 a ha
          · rw [p_ix (by omega)]; omega
  · rw [p_ix (by omega), FU_v]; omega
theorem hasRound_eq {P : Pg} {σ : Mm} (hT : TkC P σ) (hb : bN (bEnd P) ≤ 6000) : ∃ σ', f_X9_hasRound σ = some (bI (rnd P), σ') ∧ Fr [24, 25] σ σ' := by
  rcases hT with ⟨h1, h2, h3, h4, h5, h6, h7⟩ | ⟨h1, _⟩
  · have hG := edge_ok hb
    have hn1 : 1 ≤ bN (bEnd P) := (bE_BI P).1.1
    have hrn : rnd P = decide ((klp (bG (bEnd P)) (bN (bEnd P)) (bN (bEnd P))).2.2 < bN (bEnd P)) := rfl
    have h187 := h2.2.1
    rw [hrn]
    generalize bN (bEnd P) = n at *
    generalize bG (bEnd P) = G at *
    obtain ⟨σ1, e1, m1, m2⟩ := fill_eq (σ := σ) hb
    unfold f_X9_hasRound
    simp only [qi_0, qi_1, qi_2, qi_3, qi_4, qi_5, qi_6, qi_7, qi_8, qi_9, qi_10, qi_11, qi_12, qi_13, qi_14, qi_15, qi_16, qi_17, qi_19, qi_26, qi_31, qi_32, qi_35, qi_40, qi_42, qi_48, qi_50, qi_57, qi_59, qi_63, qi_64, qi_97, qi_120, qi_122, qi_210, qi_255, qi_511, qi_512, qi_1000, qi_6000, qi_13312, qi_14337, qi_16383, qi_16384, qi_524287]
    rw [h187, e1, p_bd]
    -- how many edges come
    obtain ⟨σ2, ⟨a1, a2⟩, e2⟩ := lqU (F := f_X9_hasRound_L15 (fun (σ : Mm) => f_X9_hasRound_56 σ)) (bot := fun _ _ => none) (fun τ => f_X9_hasRound_56 τ) (6 * n) (fun d τ => (∀ t, t < n → τ.1 24 t = nI (deg G t d)) ∧ Fr [24] σ τ) (by
        intro L τ ⟨_, hF⟩
        unfold f_X9_hasRound_L15
        simp only [qi_0, qi_1, qi_2, qi_3, qi_4, qi_5, qi_6, qi_7, qi_8, qi_9, qi_10, qi_11, qi_12, qi_13, qi_14, qi_15, qi_16, qi_17, qi_19, qi_26, qi_31, qi_32, qi_35, qi_40, qi_42, qi_48, qi_50, qi_57, qi_59, qi_63, qi_64, qi_97, qi_120, qi_122, qi_210, qi_255, qi_511, qi_512, qi_1000, qi_6000, qi_13312, qi_14337, qi_16383, qi_16384, qi_524287]
        rw [hF.r1 18 (by decide), h187, pk_mul, i_le (by omega) (by omega)]) (by
        intro L d τ hd ⟨g1, g2⟩
        unfold f_X9_hasRound_L15 f_X9_hasRound_50
        simp only [qi_0, qi_1, qi_2, qi_3, qi_4, qi_5, qi_6, qi_7, qi_8, qi_9, qi_10, qi_11, qi_12, qi_13, qi_14, qi_15, qi_16, qi_17, qi_19, qi_26, qi_31, qi_32, qi_35, qi_40, qi_42, qi_48, qi_50, qi_57, qi_59, qi_63, qi_64, qi_97, qi_120, qi_122, qi_210, qi_255, qi_511, qi_512, qi_1000, qi_6000, qi_13312, qi_14337, qi_16383, qi_16384, qi_524287]
        rw [g2.r1 18 (by decide), h187, pk_mul, i_nle (by omega) (by omega), p_ck _ (by omega) (by omega), p_ix (by omega), g2.r1 23 (by decide), h4 d hd]
        cases hg : G d with
        | none =>
          rw [show iO none = -nI 1 from rfl, i_m1lt (by omega), p_nm, nI_add]
          refine ⟨τ, ⟨fun t ht => ?_, g2⟩, rfl⟩
          rw [deg, hg, if_neg (fun q => by cases q)]; exact g1 t ht
        | some u =>
          have hu := hG d u hd hg
          have hdu := deg_le G u d
          rw [show iO (some u) = nI u from rfl, i_nlt (by omega) (by omega), p_ck _ (by omega) (by omega), p_nm, p_ck _ (by omega) (by omega), p_ck _ (by omega) (by omega), p_ix (by omega), g1 u hu, p_nm, nI_add, p_nm, nI_add]
          refine ⟨_, ⟨fun t ht => ?_, g2.sI (by decide)⟩, rfl⟩
          rw [deg, hg]
          by_cases e : t = u
          · rw [e, r_sI0, if_pos rfl]
          · rw [r_sIj e, if_neg (fun q => e (by simp only [Option.some.injEq] at q; exact q.symm))]; exact g1 t ht) FU 0 σ1 (by omega) (by rw [FU_v]; omega) ⟨m1, m2⟩
    rw [e2]
    -- taking away
    have loop : ∀ τ, (∀ t, t < n → τ.1 24 t = nI ((k0 G n).1 t)) → (∀ a, a < (k0 G n).2.2 → τ.1 25 a = nI ((k0 G n).2.1 a)) → Fr [24, 25] σ τ → ∃ σ', f_X9_hasRound_83 (nI (k0 G n).2.2) τ = some (bI (decide ((klp G n n).2.2 < n)), σ') ∧ Fr [24, 25] σ σ' := by
      intro τ t1 t2 tF
      unfold f_X9_hasRound_83
      refine lq2 (F := f_X9_hasRound_L85 (fun (xq1 : Int32) (σ : Mm) => f_X9_hasRound_116 xq1 σ)) (fun a b υ => ∃ j, j ≤ (klp G n j).2.2 ∧ a = nI (klp G n j).2.2 ∧ b = nI j ∧ (∀ t, t < n → υ.1 24 t = nI ((klp G n j).1 t)) ∧ (∀ a, a < (klp G n j).2.2 → υ.1 25 a = nI ((klp G n j).2.1 a)) ∧ (∀ t, t < n → (klp G n j).1 t ≤ 36000) ∧ Fr [24, 25] σ υ) (fun _ b _ => 6001 - ix b) (fun o => ∃ σ', o = some (bI (decide ((klp G n n).2.2 < n)), σ') ∧ Fr [24, 25] σ σ') ?_ FU _ (0 : Int32) τ ?_ ⟨0, Nat.zero_le _, rfl, rfl, t1, t2, fun t ht => by have := deg_le G t (6 * n); show deg G t (6 * n) ≤ 36000; omega, tF⟩
      · rintro L a b υ ⟨j, hj, rfl, rfl, u1, u2, u3, u4⟩
        have hK := klp_KI (by omega) hG hj
        have hle := KI_le hK
        unfold f_X9_hasRound_L85
        simp only [qi_0, qi_1, qi_2, qi_3, qi_4, qi_5, qi_6, qi_7, qi_8, qi_9, qi_10, qi_11, qi_12, qi_13, qi_14, qi_15, qi_16, qi_17, qi_19, qi_26, qi_31, qi_32, qi_35, qi_40, qi_42, qi_48, qi_50, qi_57, qi_59, qi_63, qi_64, qi_97, qi_120, qi_122, qi_210, qi_255, qi_511, qi_512, qi_1000, qi_6000, qi_13312, qi_14337, qi_16383, qi_16384, qi_524287]
        rw [u4.r1 18 (by decide), h187]
        by_cases c : (klp G n j).2.2 ≤ j
        · right
          have hfz := klp_frz c (n - j)
          rw [show j + (n - j) = n by omega] at hfz
          have hgo : ∃ σ', f_X9_hasRound_116 (nI (klp G n j).2.2) υ = some (bI (decide ((klp G n n).2.2 < n)), σ') ∧ Fr [24, 25] σ σ' := by
            rw [hfz]
            unfold f_X9_hasRound_116
            simp only [qi_0, qi_1, qi_2, qi_3, qi_4, qi_5, qi_6, qi_7, qi_8, qi_9, qi_10, qi_11, qi_12, qi_13, qi_14, qi_15, qi_16, qi_17, qi_19, qi_26, qi_31, qi_32, qi_35, qi_40, qi_42, qi_48, qi_50, qi_57, qi_59, qi_63, qi_64, qi_97, qi_120, qi_122, qi_210, qi_255, qi_511, qi_512, qi_1000, qi_6000, qi_13312, qi_14337, qi_16383, qi_16384, qi_524287]
            rw [u4.r1 18 (by decide), h187]
            by_cases d : n ≤ (klp G n j).2.2
            · rw [i_le (by omega) d, p_cb0, decide_eq_false (by omega), bI_f]; exact ⟨υ, rfl, u4⟩
            · rw [i_nle (by omega) (by omega), p_cb1, decide_eq_true (by omega), bI_t]; exact ⟨υ, rfl, u4⟩
          by_cases cn : n ≤ j
          · rw [i_le (by omega) cn]; exact hgo
          · rw [i_nle (by omega) (by omega), i_le (by omega) c]; exact hgo
        · left
          have hi := (hK.2.1 j (by omega)).1
          have he : ∀ k, k < 6 → epj (klp G n j).2.1 j (6 * (klp G n j).2.1 j + k) = false := by
            intro k hk
            apply decide_eq_false
            rintro ⟨a, ha, he⟩
            rw [show (6 * (klp G n j).2.1 j + k) / 6 = (klp G n j).2.1 j by omega] at he
            have := hK.2.2 a j (by omega) (by omega) he
            omega
          obtain ⟨υ', e3, v1, v2, v3, v4⟩ := takeAway_eq hb hG hK hi he (fun d hd => by rw [u4.r1 23 (by decide)]; exact h4 d hd) u1 u2 u3
          have hnx : klp G n (j + 1) = ktk G ((klp G n j).2.1 j) 6 (klp G n j) := by rw [klp, if_pos (by omega)]
          have hmono := (KI_tk hG hK hi he 6 (by omega)).2.2
          rw [i_nle (by omega) (by omega), i_nle (by omega) (by omega), p_ck _ (by omega) (by omega), p_ix (a := j) (by omega), u2 j (by omega), e3, p_bd, p_nm, nI_add]
          refine ⟨nI (klp G n (j + 1)).2.2, nI (j + 1), υ', ⟨j + 1, by rw [hnx]; omega, rfl, rfl, by rw [hnx]; exact v1, by rw [hnx]; exact v2, by rw [hnx]; exact v3, u4.tr v4⟩, ?_, by rw [hnx]⟩
          rw [p_ix (by omega)]; omega
      · show 6001 - ix (nI 0) < FU
        rw [p_ix (by omega), FU_v]; omega
    unfold f_X9_hasRound_56
    simp only [qi_0, qi_1, qi_2, qi_3, qi_4, qi_5, qi_6, qi_7, qi_8, qi_9, qi_10, qi_11, qi_12, qi_13, qi_14, qi_15, qi_16, qi_17, qi_19, qi_26, qi_31, qi_32, qi_35, qi_40, qi_42, qi_48, qi_50, qi_57, qi_59, qi_63, qi_64, qi_97, qi_120, qi_122, qi_210, qi_255, qi_511, qi_512, qi_1000, qi_6000, qi_13312, qi_14337, qi_16383, qi_16384, qi_524287]
    have hF2 : Fr [24, 25] σ σ2 := a2.mo (by intro k hk; simp only [List.mem_singleton] at hk; rw [hk]; decide)
    rw [a2.r1 18 (by decide), h187, i_nle (by omega) (by omega), p_ck _ (by omega) (by omega), p_ix (by omega), a1 0 (by omega)]
    have hdg := deg_le G 0 (6 * n)
    by_cases hz : deg G 0 (6 * n) = 0
    · have ek : (k0 G n).2.2 = 1 := if_pos hz
      rw [i_eq hz, p_ck _ (by omega) (by omega), p_nm]
      have := loop (sI σ2 25 0 (nI 0)) (fun t ht => by rw [r_sI1 (by decide)]; exact a1 t ht) (fun a ha => by rw [ek] at ha; rw [show a = 0 by omega, r_sI0]; rfl) (hF2.sI (by decide))
      rw [ek] at this
      exact this
    · have ek : (k0 G n).2.2 = 0 := if_neg hz
      rw [i_ne (by omega) (by omega) hz]
      have := loop σ2 a1 (fun a ha => by rw [ek] at ha; omega) hF2
      rw [ek] at this
      exact this
  · omega
