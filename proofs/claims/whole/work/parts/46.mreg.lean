/-! PURE: the reference's registers -/
def cM (P : Pg) (h : Nat) : Nat := if pS P h < pN P h then 2 else 1
def of0 (P : Pg) (h p : Nat) : Nat := if p < pS P h then 0 else pS P h
def bl (P : Pg) (h p : Nat) : Nat := if p < pS P h then pS P h else pN P h - pS P h
def CdM (σ : Mm) (k o : Nat) (f : Nat → Nat) : Prop := σ.1 67 k = nI (f 0) ∧ (1 ≤ f 0 → f 0 ≤ 4 → σ.1 68 k = nI (f 1)) ∧ (f 0 = 2 ∨ f 0 = 3 ∨ f 0 = 4 ∨ f 0 = 7 → σ.1 69 k = vI (f 2)) ∧ (f 0 = 3 → σ.1 70 k = nI (f 3)) ∧ (f 0 = 6 → o ≤ f 4 ∧ σ.1 71 k = nI (f 4 - o))
def PgX (P : Pg) : Prop := ∀ h, h < pH P → 1 ≤ pS P h ∧ pS P h ≤ 13 ∧ pN P h - pS P h ≤ 13
def LdM (P : Pg) (σ : Mm) : Prop := σ.1 48 7 = nI (pH P) ∧ (∀ h, h < pH P → σ.1 56 h = nI (cM P h)) ∧ ∀ h p, h < pH P → p < pN P h → ∃ c, c < 6 ∧ σ.1 55 (2 * h + cO P h p) = nI c ∧ σ.1 66 c = nI (bl P h p) ∧ CdM σ (14 * c + pO P h p) (of0 P h p) (pC P h p)
def MRh (P : Pg) (σ : Mm) (h w : Nat) : Prop := σ.1 75 h = nI (cO P h (pl w)) ∧ σ.1 76 h = nI (pO P h (pl w)) ∧ σ.1 77 h = nI (ha w) ∧ σ.1 78 h = nI (hb w) ∧ σ.1 79 h = nI (hn w) ∧ (1 ≤ hn w → σ.1 80 (2 * h) = nI (ho w / 4) ∧ σ.1 81 (2 * h) = nI (ho w % 4)) ∧ (hn w = 2 → σ.1 80 (2 * h + 1) = nI (hl w / 4) ∧ σ.1 81 (2 * h + 1) = nI (hl w % 4))
def MR (P : Pg) (σ : Mm) (x : Nat) : Prop := (∀ c, c < 3 → σ.1 74 c = nI (cv x c)) ∧ ∀ h, h < pH P → MRh P σ h (hd x h)
def mL : List Nat := [48, 74, 75, 76, 77, 78, 79, 80, 81]
theorem pO_lt {P : Pg} (hX : PgX P) {h p : Nat} (hh : h < pH P) (hp : p < pN P h) : pO P h p < 13 ∧ cO P h p < 2 ∧ pO P h p + of0 P h p = p ∧ pO P h p < bl P h p ∧ bl P h p ≤ 13 := by
  obtain ⟨h1, h2, h3⟩ := hX h hh
  unfold pO cO of0 bl
  by_cases c : p < pS P h
  · rw [if_pos c, if_pos c, if_pos c, if_pos c]; omega
  · rw [if_neg c, if_neg c, if_neg c, if_neg c, if_pos hp, if_pos hp]; omega
theorem cO_le {P : Pg} (h p : Nat) : cO P h p ≤ 2 := by unfold cO; split <;> (try split) <;> (try split) <;> omega
theorem cO_end {P : Pg} {h p : Nat} (hp : pN P h ≤ p) (hS : pS P h ≤ pN P h) : cO P h p = cM P h ∧ pO P h p = 0 := by
  unfold cO cM pO
  constructor <;> (repeat' split) <;> omega
/-- behind a step: the next place q, in the same call or at the start of the next one -/
theorem cO_next {P : Pg} (hX : PgX P) {h p q : Nat} (hh : h < pH P) (hS : pS P h ≤ pN P h) (hp : p < pN P h) (h1 : of0 P h p ≤ q) (h2 : q ≤ of0 P h p + bl P h p) : (q = of0 P h p + bl P h p → cO P h q = cO P h p + 1 ∧ pO P h q = 0) ∧ (q < of0 P h p + bl P h p → cO P h q = cO P h p ∧ pO P h q = q - of0 P h p) := by
  obtain ⟨g1, g2, g3⟩ := hX h hh
  by_cases c : p < pS P h
  · have e1 : of0 P h p = 0 := if_pos c
    have e2 : bl P h p = pS P h := if_pos c
    have e3 : cO P h p = 0 := if_pos c
    rw [e1, e2] at h2
    rw [e1, e2, e3]
    unfold cO pO
    constructor <;> intro e <;> constructor <;> (repeat' split) <;> omega
  · have e1 : of0 P h p = pS P h := if_neg c
    have e2 : bl P h p = pN P h - pS P h := if_neg c
    have e3 : cO P h p = 1 := by unfold cO; rw [if_neg c, if_pos hp]
    rw [e1] at h1
    rw [e1, e2] at h2
    rw [e1, e2, e3]
    unfold cO pO
    constructor <;> intro e <;> constructor <;> (repeat' split) <;> omega
theorem stepNow_eq {P : Pg} {σ : Mm} {h w : Nat} (hP : PgV P) (hX : PgX P) (hL : LdM P σ) (hM : MRh P σ h w) (hh : h < pH P) (hp : pl w < pN P h) :
    ∃ c, c < 6 ∧ σ.1 55 (2 * h + cO P h (pl w)) = nI c ∧ σ.1 66 c = nI (bl P h (pl w)) ∧ CdM σ (14 * c + pO P h (pl w)) (of0 P h (pl w)) (pC P h (pl w)) ∧ f_X11_stepNow (nI h) σ = some (nI (14 * c + pO P h (pl w)), σ) := by
  have hH := hP.1
  obtain ⟨c, hc, h55, h66, hcd⟩ := hL.2.2 h (pl w) hh hp
  obtain ⟨q1, q2, q3, q4, q5⟩ := pO_lt hX hh hp
  refine ⟨c, hc, h55, h66, hcd, ?_⟩
  unfold f_X11_stepNow
  simp only [qi_0, qi_1, qi_2, qi_3, qi_4, qi_5, qi_6, qi_7, qi_8, qi_9, qi_10, qi_11, qi_12, qi_13, qi_14, qi_15, qi_16, qi_17, qi_19, qi_26, qi_31, qi_32, qi_35, qi_40, qi_42, qi_48, qi_50, qi_57, qi_59, qi_63, qi_64, qi_97, qi_120, qi_122, qi_210, qi_255, qi_511, qi_512, qi_1000, qi_6000, qi_13312, qi_14337, qi_16383, qi_16384, qi_524287]
  rw [p_ck _ (by omega) (by omega), p_ix (by omega), hM.1, pk_mul, nI_add, p_ck _ (by omega) (by omega), p_ck _ (by omega) (by omega), p_ix (by omega), h55, hM.2.1, pk_mul, nI_add]
theorem goesOn_eq {P : Pg} {σ : Mm} {h p q : Nat} (hP : PgV P) (hX : PgX P) (hh : h < pH P) (hp : p < pN P h) (h75 : σ.1 75 h = nI (cO P h p)) (hL : ∃ c, c < 6 ∧ σ.1 55 (2 * h + cO P h p) = nI c ∧ σ.1 66 c = nI (bl P h p)) (h1 : of0 P h p ≤ q) (h2 : q ≤ of0 P h p + bl P h p) :
    ∃ σ', f_X11_goesOn (nI h) (nI (q - of0 P h p)) σ = some ((), σ') ∧ σ'.1 75 h = nI (cO P h q) ∧ σ'.1 76 h = nI (pO P h q) ∧ (∀ g, g ≠ h → σ'.1 75 g = σ.1 75 g ∧ σ'.1 76 g = σ.1 76 g) ∧ Fr [75, 76] σ σ' := by
  have hH := hP.1
  have hS := (hP.2.2.1 h (by omega)).1
  obtain ⟨c, hc, h55, h66⟩ := hL
  obtain ⟨q1, q2, q3, q4, q5⟩ := pO_lt hX hh hp
  obtain ⟨n1, n2⟩ := cO_next hX hh hS hp h1 h2
  have g55 : (sI σ 76 h (nI (q - of0 P h p))).1 55 (2 * h + cO P h p) = nI c := by rw [r_sI1 (by decide)]; exact h55
  have g66 : (sI σ 76 h (nI (q - of0 P h p))).1 66 c = nI (bl P h p) := by rw [r_sI1 (by decide)]; exact h66
  have g75 : (sI σ 76 h (nI (q - of0 P h p))).1 75 h = nI (cO P h p) := by rw [r_sI1 (by decide)]; exact h75
  unfold f_X11_goesOn
  simp only [qi_0, qi_1, qi_2, qi_3, qi_4, qi_5, qi_6, qi_7, qi_8, qi_9, qi_10, qi_11, qi_12, qi_13, qi_14, qi_15, qi_16, qi_17, qi_19, qi_26, qi_31, qi_32, qi_35, qi_40, qi_42, qi_48, qi_50, qi_57, qi_59, qi_63, qi_64, qi_97, qi_120, qi_122, qi_210, qi_255, qi_511, qi_512, qi_1000, qi_6000, qi_13312, qi_14337, qi_16383, qi_16384, qi_524287]
  rw [p_ck _ (by omega) (by omega), p_ix (a := h) (by omega), p_nm, p_ck _ (by omega) (by omega), g75, pk_mul, nI_add, p_ck _ (by omega) (by omega), p_ix (by omega), g55, p_ck _ (by omega) (by omega), p_ix (by omega), g66]
  by_cases e : q = of0 P h p + bl P h p
  · obtain ⟨e1, e2⟩ := n1 e
    rw [i_eq (by omega), p_ck _ (by omega) (by omega), p_nm, p_ck _ (by omega) (by omega), p_ck _ (by omega) (by omega), r_sI1 (by decide), g75, nI_add, p_nm]
    refine ⟨_, rfl, by rw [r_sI0, e1], by rw [r_sI1 (by decide), r_sI0, e2], fun g hg => ?_, (((Fr.rf _ _).sI (by decide)).sI (by decide)).sI (by decide)⟩
    rw [r_sIj hg, r_sI1 (by decide), r_sI1 (by decide), r_sI1 (by decide), r_sIj hg, r_sIj hg]
    exact ⟨rfl, rfl⟩
  · obtain ⟨e1, e2⟩ := n2 (by omega)
    rw [i_ne (by omega) (by omega) (by omega)]
    refine ⟨_, rfl, by rw [r_sI1 (by decide), e1]; exact h75, by rw [r_sI0, e2], fun g hg => ?_, (Fr.rf _ _).sI (by decide)⟩
    rw [r_sI1 (by decide), r_sIj hg]
    exact ⟨rfl, rfl⟩
theorem waiting_eq {P : Pg} {σ : Mm} {h w c : Nat} (hH : pH P ≤ 3) (hh : h < pH P) (hM : MRh P σ h w) (hW : WV w) (hc : c < 3) : f_X11_waiting (nI h) (nI c) σ = some (iO (wf w c), σ) := by
  obtain ⟨m1, m2, m3, m4, m5, m6, m7⟩ := hM
  have hn2 := hW.1
  have ho12 := hW.2.2.2.1
  have hl12 := hW.2.2.2.2
  have ste : ∀ L v k, hn w ≤ k → k ≤ 2 → f_X11_waiting_L5 (nI h) (nI c) L v (nI k) σ = some (v, σ) := by
    intro L v k h1 h2
    unfold f_X11_waiting_L5
    rw [p_ck _ (by omega) (by omega), p_ix (a := h) (by omega), m5, i_le (by omega) h1]
  have st0 : ∀ L v, 1 ≤ hn w → f_X11_waiting_L5 (nI h) (nI c) L v (nI 0) σ = L (if ho w / 4 = c then nI (ho w % 4) else v) (nI 1) σ := by
    intro L v h1
    obtain ⟨a1, a2⟩ := m6 h1
    unfold f_X11_waiting_L5 f_X11_waiting_46
    simp only [qi_0, qi_1, qi_2, qi_3, qi_4, qi_5, qi_6, qi_7, qi_8, qi_9, qi_10, qi_11, qi_12, qi_13, qi_14, qi_15, qi_16, qi_17, qi_19, qi_26, qi_31, qi_32, qi_35, qi_40, qi_42, qi_48, qi_50, qi_57, qi_59, qi_63, qi_64, qi_97, qi_120, qi_122, qi_210, qi_255, qi_511, qi_512, qi_1000, qi_6000, qi_13312, qi_14337, qi_16383, qi_16384, qi_524287]
    rw [p_ck _ (by omega) (by omega), p_ix (a := h) (by omega), m5, i_nle (by omega) (by omega), pk_mul, nI_add, p_ck _ (by omega) (by omega), p_ix (a := 2 * h + 0) (by omega), Nat.add_zero, a1, a2, p_ck _ (by omega) (by omega)]
    by_cases e : ho w / 4 = c
    · rw [i_eq e, if_pos e, nI_add, p_nm]
    · rw [i_ne (by omega) (by omega) e, if_neg e, nI_add, p_nm]
  have st1 : ∀ L v, hn w = 2 → f_X11_waiting_L5 (nI h) (nI c) L v (nI 1) σ = L (if hl w / 4 = c then nI (hl w % 4) else v) (nI 2) σ := by
    intro L v h1
    obtain ⟨a1, a2⟩ := m7 h1
    unfold f_X11_waiting_L5 f_X11_waiting_46
    simp only [qi_0, qi_1, qi_2, qi_3, qi_4, qi_5, qi_6, qi_7, qi_8, qi_9, qi_10, qi_11, qi_12, qi_13, qi_14, qi_15, qi_16, qi_17, qi_19, qi_26, qi_31, qi_32, qi_35, qi_40, qi_42, qi_48, qi_50, qi_57, qi_59, qi_63, qi_64, qi_97, qi_120, qi_122, qi_210, qi_255, qi_511, qi_512, qi_1000, qi_6000, qi_13312, qi_14337, qi_16383, qi_16384, qi_524287]
    rw [p_ck _ (by omega) (by omega), p_ix (a := h) (by omega), m5, i_nle (by omega) (by omega), pk_mul, nI_add, p_ck _ (by omega) (by omega), p_ix (a := 2 * h + 1) (by omega), a1, a2, p_ck _ (by omega) (by omega)]
    by_cases e : hl w / 4 = c
    · rw [i_eq e, if_pos e, nI_add, p_nm]
    · rw [i_ne (by omega) (by omega) e, if_neg e, nI_add, p_nm]
  unfold f_X11_waiting
  rw [qi_0, qi_1, FU_v, show (40000 : Nat) = 39997 + 1 + 1 + 1 from rfl, p_fx]
  by_cases n0 : hn w = 0
  · rw [ste _ _ 0 (by omega) (by omega), wf_0 n0]; rfl
  · rw [st0 _ _ (by omega), p_fx]
    unfold wf
    by_cases n1 : hn w = 1
    · rw [ste _ _ 1 (by omega) (by omega), if_neg (show ¬ (hn w = 2 ∧ hl w / 4 = c) from fun q => by omega)]
      by_cases e : ho w / 4 = c
      · rw [if_pos e, if_pos ⟨by omega, e⟩]; rfl
      · rw [if_neg e, if_neg (fun q => e q.2)]; rfl
    · have n2 : hn w = 2 := by omega
      rw [st1 _ _ n2, p_fx, ste _ _ 2 (by omega) (by omega)]
      by_cases e2 : hl w / 4 = c
      · rw [if_pos e2, if_pos ⟨n2, e2⟩]; rfl
      · rw [if_neg e2, if_neg (show ¬ (hn w = 2 ∧ hl w / 4 = c) from fun q => e2 q.2)]
        by_cases e : ho w / 4 = c
        · rw [if_pos e, if_pos ⟨by omega, e⟩]; rfl
        · rw [if_neg e, if_neg (fun q => e q.2)]; rfl
