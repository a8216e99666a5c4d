/-! PURE: the least shortest way is the way of the tree -/
theorem Rch_inv {E : Nat → Prop} {G : Nat → Option Nat} {i : Nat} (h : Rch E G i) : E i ∨ ∃ e t, e < 6 ∧ G (6 * i + e) = some t ∧ Rch E G t := by
  obtain ⟨k, hk⟩ := h
  induction k with
  | zero => exact Or.inl hk
  | succ k ih =>
    rcases hk with hk | ⟨e, t, he, hG, hk⟩
    · exact ih hk
    · exact Or.inr ⟨e, t, he, hG, k, hk⟩
/-- edges that lead one further -/
def G2 (b : Bs) (d : Nat) : Option Nat := match bG b d with
  | none => none
  | some t => if bD b t = bD b (d / 6) + 1 then some t else none
theorem G2_n {b : Bs} {d : Nat} (h : bG b d = none) : G2 b d = none := by unfold G2; rw [h]
theorem G2_y {b : Bs} {d t : Nat} (h : bG b d = some t) (h2 : bD b t = bD b (d / 6) + 1) : G2 b d = some t := by
  unfold G2; rw [h]; exact if_pos h2
theorem G2_s {b : Bs} {d t : Nat} (h : G2 b d = some t) : bG b d = some t ∧ bD b t = bD b (d / 6) + 1 := by
  cases hg : bG b d with
  | none => rw [G2_n hg] at h; cases h
  | some t' =>
    unfold G2 at h
    rw [hg] at h
    simp only at h
    split at h
    · rename_i c
      rw [← Option.some.inj h]
      exact ⟨rfl, c⟩
    · cases h
section
variable {nx : Nat → Nat → Option Nat} {x0 e : Nat} {b : Bs}
theorem BI_edge (hB : BI nx x0 e b) (hN : bN b ≤ 6000) (he : 36000 ≤ e) {d t : Nat} (hd : d < 6 * bN b) (h : bG b d = some t) : t < bN b ∧ (0 < t → bC b t ≤ d) := by
  rcases hB.2.2.2.2.1 d (by omega) hd hN with ⟨h1, _⟩ | ⟨j, h1, h2, _, h4⟩
  · rw [h] at h1; cases h1
  · rw [h] at h2
    have e1 := Option.some.inj h2
    rw [e1]
    exact ⟨h1, h4⟩
theorem rcp_D (hB : BI nx x0 e b) (hN : bN b ≤ 6000) (he : 36000 ≤ e) {w : Nat} {E : Nat → Prop} (hE : ∀ i, i < bN b → E i → i = w) : ∀ k y, y < bN b → rcp E (G2 b) k y → bD b y ≤ bD b w := by
  intro k
  induction k with
  | zero => intro y hy h; rw [hE y hy h]; exact Nat.le_refl _
  | succ k ih =>
    intro y hy h
    rcases h with h | ⟨d, t, hd, hG, h⟩
    · exact ih y hy h
    · obtain ⟨g1, g2⟩ := G2_s hG
      have := ih t (BI_edge hB hN he (by omega) g1).1 h
      rw [show (6 * y + d) / 6 = y by omega] at g2
      omega
theorem way_lt (hB : BI nx x0 e b) (hN : bN b ≤ 6000) (he : 36000 ≤ e) {w : Nat} (hw : w < bN b) {E : Nat → Prop} (hE : ∀ i, i < bN b → E i → i = w) : ∀ k y, y < bN b → rcp E (G2 b) k y → ∀ m, m ≤ bD b w → bD b y = m → y < anc b w (bD b w - m) → False := by
  intro k
  induction k with
  | zero =>
    intro y hy h m hm hD hlt
    have ey := hE y hy h
    subst ey
    rw [hD, Nat.sub_self, anc] at hlt
    omega
  | succ k ih =>
    intro y hy h m hm hD hlt
    rcases h with h | ⟨d, t, hd, hG, h⟩
    · exact ih y hy h m hm hD hlt
    · obtain ⟨g1, g2⟩ := G2_s hG
      rw [show (6 * y + d) / 6 = y by omega] at g2
      obtain ⟨ht, hc⟩ := BI_edge hB hN he (by omega) g1
      have hDt := rcp_D hB hN he hE k t ht h
      have t0 : 0 < t := by
        apply Nat.pos_of_ne_zero
        intro q
        have := (BI_D0 hB ht).1.mpr q
        omega
      have hc := hc t0
      obtain ⟨a1, a2⟩ := anc_ok hB hw (bD b w - (m + 1)) (by omega)
      have v0 : 0 < anc b w (bD b w - (m + 1)) := by
        apply Nat.pos_of_ne_zero
        intro q
        have := (BI_D0 hB a1).1.mpr q
        omega
      have ev : anc b w (bD b w - m) = bC b (anc b w (bD b w - (m + 1))) / 6 := by
        rw [show bD b w - m = bD b w - (m + 1) + 1 by omega, anc]
      rw [ev] at hlt
      refine ih t ht h (m + 1) (by omega) (by omega) ?_
      apply Nat.lt_of_not_le
      intro q
      by_cases eq : anc b w (bD b w - (m + 1)) = t
      · rw [eq] at hlt
        omega
      · have := hB.2.2.2.1 (anc b w (bD b w - (m + 1))) t v0 (by omega) ht
        omega
theorem anc_Rch (hB : BI nx x0 e b) (hN : bN b ≤ 6000) (he : 36000 ≤ e) {w : Nat} (hw : w < bN b) {E : Nat → Prop} (hEw : E w) : ∀ k, k ≤ bD b w → Rch E (G2 b) (anc b w k) := by
  intro k
  induction k with
  | zero => intro _; exact Rch_0 hEw
  | succ k ih =>
    intro hk
    have h1 := ih (by omega)
    obtain ⟨a1, a2⟩ := anc_ok hB hw k (by omega)
    have v0 : anc b w k ≠ 0 := by
      intro q
      have := (BI_D0 hB a1).1.mpr q
      omega
    obtain ⟨c1, c2, c3, c4, c5⟩ := hB.2.2.1 (anc b w k) (by omega) a1
    rw [anc]
    refine Rch_s (e := bC b (anc b w k) % 6) (t := anc b w k) (Nat.mod_lt _ (by decide)) ?_ h1
    rw [show 6 * (bC b (anc b w k) / 6) + bC b (anc b w k) % 6 = bC b (anc b w k) by omega]
    exact G2_y c3 c5
/-- a step of the least shortest way -/
theorem way_step (hB : BI nx x0 e b) (hN : bN b ≤ 6000) (he : 36000 ≤ e) {w : Nat} (hw : w < bN b) {E : Nat → Prop} (hEw : E w) (hE : ∀ i, i < bN b → E i → i = w) {m : Nat} (hm : m < bD b w) :
    anc b w (bD b w - m) < bN b ∧ ¬ E (anc b w (bD b w - m)) ∧ mvp b w m < 6 ∧ G2 b (6 * anc b w (bD b w - m) + mvp b w m) = some (anc b w (bD b w - (m + 1))) ∧ Rch E (G2 b) (anc b w (bD b w - (m + 1))) ∧ ∀ d t, d < mvp b w m → G2 b (6 * anc b w (bD b w - m) + d) = some t → ¬ Rch E (G2 b) t := by
  obtain ⟨a1, a2⟩ := anc_ok hB hw (bD b w - (m + 1)) (by omega)
  obtain ⟨b1, b2⟩ := anc_ok hB hw (bD b w - m) (by omega)
  have v0 : anc b w (bD b w - (m + 1)) ≠ 0 := by
    intro q
    have := (BI_D0 hB a1).1.mpr q
    omega
  have ev : anc b w (bD b w - m) = bC b (anc b w (bD b w - (m + 1))) / 6 := by
    rw [show bD b w - m = bD b w - (m + 1) + 1 by omega, anc]
  have em : mvp b w m = bC b (anc b w (bD b w - (m + 1))) % 6 := by
    unfold mvp
    rw [show bD b w - 1 - m = bD b w - (m + 1) by omega]
  have es : 6 * anc b w (bD b w - m) + mvp b w m = bC b (anc b w (bD b w - (m + 1))) := by rw [ev, em]; omega
  obtain ⟨c1, c2, c3, c4, c5⟩ := hB.2.2.1 (anc b w (bD b w - (m + 1))) (by omega) a1
  refine ⟨b1, fun q => ?_, by rw [em]; exact Nat.mod_lt _ (by decide), ?_, anc_Rch hB hN he hw hEw _ (by omega), ?_⟩
  · have := hE _ b1 q
    rw [this] at b2
    omega
  · rw [es]; exact G2_y c3 c5
  · intro d t hd hG hR
    obtain ⟨g1, g2⟩ := G2_s hG
    have hd6 : mvp b w m < 6 := by rw [em]; exact Nat.mod_lt _ (by decide)
    rw [show (6 * anc b w (bD b w - m) + d) / 6 = anc b w (bD b w - m) by omega] at g2
    obtain ⟨ht, hc⟩ := BI_edge hB hN he (show 6 * anc b w (bD b w - m) + d < 6 * bN b by omega) g1
    have t0 : 0 < t := by
      apply Nat.pos_of_ne_zero
      intro q
      have := (BI_D0 hB ht).1.mpr q
      omega
    have hc := hc t0
    obtain ⟨k, hk⟩ := hR
    refine way_lt hB hN he hw hE k t ht hk (m + 1) (by omega) (by omega) ?_
    apply Nat.lt_of_not_le
    intro q
    by_cases eq : anc b w (bD b w - (m + 1)) = t
    · rw [eq] at es
      omega
    · have := hB.2.2.2.1 (anc b w (bD b w - (m + 1))) t (by omega) (by omega) ht
      omega
end
/-- an end is its result's -/
theorem resf_inj {x y : Nat} : ∀ n, resf x n = resf y n → (∀ c, c < 3 → cv x c = cv y c) ∧ ∀ h, h < n → ha (hd x h) = ha (hd y h) ∧ hb (hd x h) = hb (hd y h) := by
  intro n
  induction n with
  | zero =>
    intro h
    have h : 16 * cv x 0 + 4 * cv x 1 + cv x 2 = 16 * cv y 0 + 4 * cv y 1 + cv y 2 := h
    have a0 := cv_lt x 0
    have a1 := cv_lt x 1
    have a2 := cv_lt x 2
    have b0 := cv_lt y 0
    have b1 := cv_lt y 1
    have b2 := cv_lt y 2
    refine ⟨fun c hc => ?_, fun h hh => by omega⟩
    rcases (show c = 0 ∨ c = 1 ∨ c = 2 by omega) with rfl | rfl | rfl <;> omega
  | succ n ih =>
    intro h
    have h : 16 * resf x n + 4 * ha (hd x n) + hb (hd x n) = 16 * resf y n + 4 * ha (hd y n) + hb (hd y n) := h
    have a0 := ha_lt (hd x n)
    have a1 := hb_lt (hd x n)
    have b0 := ha_lt (hd y n)
    have b1 := hb_lt (hd y n)
    obtain ⟨i1, i2⟩ := ih (by omega)
    refine ⟨i1, fun g hg => ?_⟩
    by_cases c : g = n
    · rw [c]; omega
    · exact i2 g (by omega)
theorem end_uni {P : Pg} {x y : Nat} (hP : PgV P) (hx : VS P x) (hy : VS P y) (ex : iE P x = true) (ey : iE P y = true) (h : rslt P x = rslt P y) : x = y := by
  have ex := of_decide_eq_true ex
  have ey := of_decide_eq_true ey
  obtain ⟨h1, h2⟩ := resf_inj _ h
  refine st_ext hx.1 hy.1 h1 (fun g hg => ?_)
  obtain ⟨p1, p2, p3⟩ := hx.2 g hg
  obtain ⟨q1, q2, q3⟩ := hy.2 g hg
  by_cases c : g < pH P
  · obtain ⟨x1, x2⟩ := ex g c
    obtain ⟨y1, y2⟩ := ey g c
    obtain ⟨z1, z2⟩ := h2 g c
    rw [w_eta (hd_lt x g), w_eta (hd_lt y g), z1, z2, x2, y2, p1.2.1 x2, q1.2.1 y2, p1.2.2.1 (by omega), q1.2.2.1 (by omega), show pl (hd x g) = pl (hd y g) by omega]
  · rw [p3 (by omega), q3 (by omega)]
/-- the ends with a result -/
def eR (P : Pg) (r i : Nat) : Prop := iE P (bF (bEnd P) i) = true ∧ rslt P (bF (bEnd P) i) = r
theorem eR_uni {P : Pg} {r w : Nat} (hP : PgV P) (h0 : VS P (pF P)) (hw : w < bN (bEnd P)) (hr : eR P r w) : ∀ i, i < bN (bEnd P) → eR P r i → i = w := by
  intro i hi h
  exact (bE_BI P).2.1 i w hi hw (end_uni hP (bE_VS hP h0 i hi) (bE_VS hP h0 w hw) h.1 hr.1 (h.2.trans hr.2.symm))
theorem eI_iff {P : Pg} {r i : Nat} (hP : PgV P) (hr : r < 262144) : eI P (bF (bEnd P) i) = nI r ↔ eR P r i := by
  have hl := resf_lt3 (bF (bEnd P) i) hP.1
  have hl : rslt P (bF (bEnd P) i) < 262144 := hl
  unfold eI eR
  cases h : iE P (bF (bEnd P) i) with
  | true =>
    rw [if_pos rfl]
    exact ⟨fun q => ⟨rfl, (nI_eq (by omega) (by omega)).mp q⟩, fun q => by rw [q.2]⟩
  | false =>
    rw [if_neg (by decide)]
    refine ⟨fun q => ?_, fun q => by cases q.1⟩
    have := p_m1eq (a := r) (by omega)
    rw [q] at this
    exact (this.mp rfl).elim
