/-! PURE: a call done alone -/
def itr (g : Nat → Nat) : Nat → Nat → Nat
  | 0, x => x
  | n + 1, x => itr g n (g x)
theorem itr_s (g : Nat → Nat) : ∀ n x, itr g (n + 1) x = g (itr g n x) := by
  intro n
  induction n with
  | zero => intro x; rfl
  | succ n ih => intro x; show itr g (n + 1) (g x) = _; rw [ih]; rfl
theorem itr_add (g : Nat → Nat) : ∀ m n x, itr g (m + n) x = itr g n (itr g m x) := by
  intro m n
  induction n with
  | zero => intro x; rfl
  | succ n ih => intro x; rw [show m + (n + 1) = m + n + 1 by omega, itr_s, ih, itr_s]
def rn (g : Nat → Nat) (T : Nat → Bool) : Nat → Nat → Option Nat
  | 0, _ => none
  | n + 1, x => if T (g x) then some (g x) else rn g T n (g x)
theorem rn_none {g : Nat → Nat} {T : Nat → Bool} : ∀ n x, (∀ i, 1 ≤ i → i ≤ n → T (itr g i x) = false) → rn g T n x = none := by
  intro n
  induction n with
  | zero => intro x _; rfl
  | succ n ih =>
    intro x h
    rw [rn]
    have h1 := h 1 (by omega) (by omega)
    have h1 : T (g x) = false := h1
    rw [h1]
    exact ih (g x) (fun i h1 h2 => h (i + 1) (by omega) (by omega))
theorem rn_some {g : Nat → Nat} {T : Nat → Bool} : ∀ n x i, 1 ≤ i → i ≤ n → T (itr g i x) = true → (∀ j, 1 ≤ j → j < i → T (itr g j x) = false) → rn g T n x = some (itr g i x) := by
  intro n
  induction n with
  | zero => intro x i h1 h2; omega
  | succ n ih =>
    intro x i h1 h2 h3 h4
    rw [rn]
    by_cases c : i = 1
    · subst c
      have h3 : T (g x) = true := h3
      rw [h3]; rfl
    · have h5 : T (g x) = false := h4 1 (by omega) (by omega)
      rw [h5]
      obtain ⟨k, rfl⟩ : ∃ k, i = k + 1 := ⟨i - 1, by omega⟩
      exact ih (g x) k (by omega) (by omega) h3 (fun j h6 h7 => h4 (j + 1) (by omega) (by omega))
/-- the first end, if there is one up to n -/
theorem rn_first {T : Nat → Bool} (f : Nat → Nat) (n : Nat) : (∀ i, 1 ≤ i → i ≤ n → T (f i) = false) ∨ ∃ i, 1 ≤ i ∧ i ≤ n ∧ T (f i) = true ∧ ∀ j, 1 ≤ j → j < i → T (f j) = false := by
  by_cases h : ∃ i, 1 ≤ i ∧ i ≤ n ∧ T (f i) = true
  · right
    obtain ⟨k, ⟨h1, h2, h3⟩, h4⟩ := pk_least _ h
    refine ⟨k, h1, h2, h3, fun j h5 h6 => ?_⟩
    cases h7 : T (f j) with
    | false => rfl
    | true => exact absurd ⟨h5, by omega, h7⟩ (h4 j h6)
  · left
    intro i h1 h2
    cases h3 : T (f i) with
    | false => rfl
    | true => exact absurd ⟨i, h1, h2, h3⟩ h
theorem rn_cyc {g : Nat → Nat} {T : Nat → Bool} {x a b : Nat} (hab : a < b) (he : itr g a x = itr g b x) (hb : ∀ j, 1 ≤ j → j ≤ b → T (itr g j x) = false) : ∀ j, 1 ≤ j → T (itr g j x) = false := by
  intro j
  induction j using Nat.strongRecOn with
  | _ j ih =>
    intro hj
    by_cases c : j ≤ b
    · exact hb j hj c
    · have e : itr g j x = itr g (a + (j - b)) x := by
        rw [itr_add, he, ← itr_add, show b + (j - b) = j by omega]
      rw [e]
      exact ih _ (by omega) (by omega)
/-- more than N steps never help -/
theorem rn_bound {g : Nat → Nat} {T : Nat → Bool} {x N : Nat} (cd : Nat → Nat) (hc : ∀ i, (∀ j, 1 ≤ j → j ≤ i → T (itr g j x) = false) → cd (itr g i x) < N) (hi : ∀ i j, (∀ k, 1 ≤ k → k ≤ i → T (itr g k x) = false) → (∀ k, 1 ≤ k → k ≤ j → T (itr g k x) = false) → cd (itr g i x) = cd (itr g j x) → itr g i x = itr g j x) : ∀ m, N ≤ m → rn g T m x = rn g T N x := by
  intro m hm
  rcases rn_first (T := T) (fun i => itr g i x) m with h | ⟨i, h1, h2, h3, h4⟩
  · rw [rn_none m x h, rn_none N x (fun i a b => h i a (by omega))]
  · have hN : i ≤ N := by
      apply Classical.byContradiction
      intro q
      obtain ⟨a, b, hab, hb, he⟩ := pigeon N (fun j => cd (itr g j x)) (fun j hj => hc j (fun k k1 k2 => h4 k k1 (by omega)))
      have he2 := hi a b (fun k k1 k2 => h4 k k1 (by omega)) (fun k k1 k2 => h4 k k1 (by omega)) he
      have h5 := rn_cyc hab he2 (fun j j1 j2 => h4 j j1 (by omega)) i h1
      have h3 : T (itr g i x) = true := h3
      rw [h3] at h5
      cases h5
    rw [rn_some m x i h1 h2 h3 h4, rn_some N x i h1 hN h3 h4]
/-- a single hand that does one call: hand 0 -/
def Qc (S : Su) (X : Nat → Bool) (c : Nat) : Pg := (1, 0, 0, (fun h => if h = 0 then fl S X c else 0), (fun h => if h = 0 then fl S X c else 0), (fun _ p => lc S X c p))
def gQ (S : Su) (X : Nat → Bool) (c y : Nat) : Nat := (stp (Qc S X c) 0 y 0).getD 0
def tQ (S : Su) (X : Nat → Bool) (c y : Nat) : Bool := decide (fl S X c ≤ pl (hd y 0))
def mky (k p a b : Nat) : Nat := k + 64 * mkw p a b 0 0 0
/-- a state of it: cells k, place p, A, B -/
def AV (n y : Nat) : Prop := ∃ k p a b, k < 64 ∧ p ≤ n ∧ a < 4 ∧ b < 4 ∧ y = mky k p a b
theorem mky_lt {k p a b : Nat} (hk : k < 64) (hp : p < 32) (ha : a < 4) (hb : b < 4) : mky k p a b < 32768 := by
  unfold mky mkw; omega
theorem hd_mky {k p a b : Nat} (hk : k < 64) (hp : p < 32) (ha : a < 4) (hb : b < 4) : hd (mky k p a b) 0 = mkw p a b 0 0 0 := by
  unfold hd mky mkw; rw [hw0]; omega
theorem hd_mky1 {k p a b g : Nat} (hk : k < 64) (hp : p < 32) (ha : a < 4) (hb : b < 4) (hg : g < 3) (h0 : g ≠ 0) : hd (mky k p a b) g = 0 := by
  have := mky_lt hk hp ha hb
  unfold hd
  rcases lt3 hg with rfl | rfl | rfl
  · exact absurd rfl h0
  · rw [hw1]; omega
  · rw [hw2]; omega
theorem cv_mky {k p a b c : Nat} (hc : c < 3) : cv (mky k p a b) c = cv k c := by
  unfold cv mky mkw
  rcases lt3 hc with rfl | rfl | rfl
  · rw [p40]; omega
  · rw [p41]; omega
  · rw [p42]; omega
theorem cv_mod (x : Nat) {c : Nat} (hc : c < 3) : cv (x % 64) c = cv x c := by
  unfold cv
  rcases lt3 hc with rfl | rfl | rfl
  · rw [p40]; omega
  · rw [p41]; omega
  · rw [p42]; omega
theorem k_ext {k k' : Nat} (hk : k < 64) (hk' : k' < 64) (h : ∀ c, c < 3 → cv k c = cv k' c) : k = k' := by
  have h0 := h 0 (by omega)
  have h1 := h 1 (by omega)
  have h2 := h 2 (by omega)
  simp only [cv, p40, p41, p42] at h0 h1 h2
  omega
/-- cells and one hand of a state x, taken out of a single hand's state -/
def Uq (h o x y : Nat) : Nat := setH (x - x % 64 + y % 64) h (mkw (o + pl (hd y 0)) (ha (hd y 0)) (hb (hd y 0)) 0 0 0)
theorem putk_hd {x k h : Nat} (hk : k < 64) (hh : h < 3) : hd (x - x % 64 + k) h = hd x h := by
  unfold hd
  rcases lt3 hh with rfl | rfl | rfl
  · rw [hw0]; omega
  · rw [hw1]; omega
  · rw [hw2]; omega
theorem putk_cv {x k c : Nat} (hk : k < 64) (hc : c < 3) : cv (x - x % 64 + k) c = cv k c := by
  unfold cv
  rcases lt3 hc with rfl | rfl | rfl
  · rw [p40]; omega
  · rw [p41]; omega
  · rw [p42]; omega
theorem putk_lt {x k : Nat} (hk : k < 64) (hx : x < 9223372036854775808) : x - x % 64 + k < 9223372036854775808 := by omega
section UQ
variable {h o x y : Nat} (hh : h < 3) (hx : x < 9223372036854775808) (ho : o + pl (hd y 0) < 32)
theorem Uq_w (ho : o + pl (hd y 0) < 32) : mkw (o + pl (hd y 0)) (ha (hd y 0)) (hb (hd y 0)) 0 0 0 < 524288 := mkw_lt ho (ha_lt _) (hb_lt _) (by omega) (by omega) (by omega)
theorem Uq_hd (hh : h < 3) (ho : o + pl (hd y 0) < 32) : hd (Uq h o x y) h = mkw (o + pl (hd y 0)) (ha (hd y 0)) (hb (hd y 0)) 0 0 0 := hd_setH hh (Uq_w ho)
theorem Uq_hdn (hh : h < 3) (ho : o + pl (hd y 0) < 32) {g : Nat} (hg : g < 3) (hn : g ≠ h) : hd (Uq h o x y) g = hd x g := by
  unfold Uq
  rw [hd_setHn hh hg (Uq_w ho) hn, putk_hd (by omega) hg]
theorem Uq_cv (hh : h < 3) (ho : o + pl (hd y 0) < 32) {c : Nat} (hc : c < 3) : cv (Uq h o x y) c = cv y c := by
  unfold Uq
  rw [cv_setH hc hh (Uq_w ho), putk_cv (by omega) hc, cv_mod y hc]
theorem Uq_lt (hh : h < 3) (hx : x < 9223372036854775808) (ho : o + pl (hd y 0) < 32) : Uq h o x y < 9223372036854775808 := setH_lt (putk_lt (by omega) hx) hh (Uq_w ho)
end UQ
theorem Uq_set {h o x y c v p a b : Nat} (hh : h < 3) (hx : x < 9223372036854775808) (ho : o + pl (hd y 0) < 32) (hc : c < 3) (hv : v < 4) (hp : o + p < 32) (ha : a < 4) (hb : b < 4) :
    Uq h o x (setH (setV y c v) 0 (mkw p a b 0 0 0)) = setH (setV (Uq h o x y) c v) h (mkw (o + p) a b 0 0 0) := by
  have hw := mkw_lt (p := p) (by omega) ha hb (show 0 < 4 by omega) (show 0 < 16 by omega) (show 0 < 16 by omega)
  have hw2 := mkw_lt hp ha hb (show 0 < 4 by omega) (show 0 < 16 by omega) (show 0 < 16 by omega)
  have e0 : hd (setH (setV y c v) 0 (mkw p a b 0 0 0)) 0 = mkw p a b 0 0 0 := hd_setH (by omega) hw
  have ho2 : o + pl (hd (setH (setV y c v) 0 (mkw p a b 0 0 0)) 0) < 32 := by rw [e0, pl_mkw (by omega)]; exact hp
  apply st_ext (Uq_lt hh hx ho2) (setH_lt (setV_lt (Uq_lt hh hx ho) hc hv) hh hw2)
  · intro d hd3
    rw [Uq_cv hh ho2 hd3, cv_setH hd3 (by omega) hw, cv_setH hd3 hh hw2]
    by_cases e : d = c
    · subst e; rw [cv_setV hc hv, cv_setV hc hv]
    · rw [cv_setVn hc hd3 hv e, cv_setVn hc hd3 hv e, Uq_cv hh ho hd3]
  · intro g hg
    by_cases e : g = h
    · subst e
      rw [Uq_hd hh ho2, hd_setH hh hw2, e0, pl_mkw (by omega), ha_mkw (by omega) ha, hb_mkw (by omega) ha hb]
    · rw [Uq_hdn hh ho2 hg e, hd_setHn hh hg hw2 e, hd_setV hc hg hv, Uq_hdn hh ho hg e]
theorem Uq_set0 {h o x y p a b : Nat} (hh : h < 3) (hx : x < 9223372036854775808) (ho : o + pl (hd y 0) < 32) (hp : o + p < 32) (ha : a < 4) (hb : b < 4) :
    Uq h o x (setH y 0 (mkw p a b 0 0 0)) = setH (Uq h o x y) h (mkw (o + p) a b 0 0 0) := by
  have hw := mkw_lt (p := p) (by omega) ha hb (show 0 < 4 by omega) (show 0 < 16 by omega) (show 0 < 16 by omega)
  have hw2 := mkw_lt hp ha hb (show 0 < 4 by omega) (show 0 < 16 by omega) (show 0 < 16 by omega)
  have e0 : hd (setH y 0 (mkw p a b 0 0 0)) 0 = mkw p a b 0 0 0 := hd_setH (by omega) hw
  have ho2 : o + pl (hd (setH y 0 (mkw p a b 0 0 0)) 0) < 32 := by rw [e0, pl_mkw (by omega)]; exact hp
  apply st_ext (Uq_lt hh hx ho2) (setH_lt (Uq_lt hh hx ho) hh hw2)
  · intro d hd3
    rw [Uq_cv hh ho2 hd3, cv_setH hd3 (by omega) hw, cv_setH hd3 hh hw2, Uq_cv hh ho hd3]
  · intro g hg
    by_cases e : g = h
    · subst e
      rw [Uq_hd hh ho2, hd_setH hh hw2, e0, pl_mkw (by omega), ha_mkw (by omega) ha, hb_mkw (by omega) ha hb]
    · rw [Uq_hdn hh ho2 hg e, hd_setHn hh hg hw2 e, Uq_hdn hh ho hg e]
theorem setH_mky {k p a b p' a' b' : Nat} (hk : k < 64) (hp : p < 32) (ha : a < 4) (hb : b < 4) (hp' : p' < 32) (ha' : a' < 4) (hb' : b' < 4) : setH (mky k p a b) 0 (mkw p' a' b' 0 0 0) = mky k p' a' b' := by
  unfold setH
  rw [hd_mky hk hp ha hb, hw0]
  unfold mky mkw
  omega
theorem setV_mky {k p a b c v : Nat} (hk : k < 64) (hc : c < 3) (hv : v < 4) : ∃ k', k' < 64 ∧ setV (mky k p a b) c v = mky k' p a b := by
  refine ⟨setV k c v, ?_, ?_⟩
  · unfold setV cv
    rcases lt3 hc with rfl | rfl | rfl
    · rw [p40]; omega
    · rw [p41]; omega
    · rw [p42]; omega
  · unfold setV
    rw [cv_mky hc]
    unfold mky cv
    rcases lt3 hc with rfl | rfl | rfl
    · rw [p40]; omega
    · rw [p41]; omega
    · rw [p42]; omega
theorem wf_0 {w c : Nat} (h : hn w = 0) : wf w c = none := by
  unfold wf
  rw [if_neg (fun q => by omega), if_neg (fun q => by omega)]
/-- one step of a call alone, in a state of many hands and in that of a single one -/
theorem alone_step {S : Su} {X : Nat → Bool} {P : Pg} {c h o x y : Nat} (hS : SuV S) (hFX : FX S X) (hc : c < sK S) (hh : h < 3) (hx : x < 9223372036854775808) (hA : AV (fl S X c) y) (hp : pl (hd y 0) < fl S X c) (ho : o + fl S X c ≤ 26) (hN : o + fl S X c ≤ pN P h) (hC : ∀ p, p < fl S X c → pC P h (o + p) = shf o (lc S X c p)) :
    stp P 0 (Uq h o x y) h = some (Uq h o x (gQ S X c y)) ∧ stp (Qc S X c) 0 y 0 = some (gQ S X c y) ∧ AV (fl S X c) (gQ S X c y) := by
  obtain ⟨k, p, a, b, hk, hpn, ha4, hb4, rfl⟩ := hA
  have hfl := hFX c hc
  have hp32 : p < 32 := by omega
  have e0 := hd_mky hk hp32 ha4 hb4
  rw [e0, pl_mkw hp32] at hp
  have hou : o + pl (hd (mky k p a b) 0) < 32 := by rw [e0, pl_mkw hp32]; omega
  have eU : hd (Uq h o x (mky k p a b)) h = mkw (o + p) a b 0 0 0 := by rw [Uq_hd hh hou, e0, pl_mkw hp32, ha_mkw hp32 ha4, hb_mkw hp32 ha4 hb4]
  have ho32 : o + p < 32 := by omega
  have cvU : ∀ d, d < 3 → cv (Uq h o x (mky k p a b)) d = cv (mky k p a b) d := fun d hd3 => Uq_cv hh hou hd3
  have hV := lcf_V (X := X) hS hc _ (Nat.le_refl _) p hp
  have hCp := hC p hp
  have eS : stp P 0 (Uq h o x (mky k p a b)) h = stpf (pN P h) (shf o (lc S X c p)) 0 (Uq h o x (mky k p a b)) h (mkw (o + p) a b 0 0 0) := by
    unfold stp; rw [eU, pl_mkw ho32, hCp]
  have eQ : stp (Qc S X c) 0 (mky k p a b) 0 = stpf (fl S X c) (lc S X c p) 0 (mky k p a b) 0 (mkw p a b 0 0 0) := by
    unfold stp; rw [e0, pl_mkw hp32]; rfl
  have key : ∃ z, stpf (fl S X c) (lc S X c p) 0 (mky k p a b) 0 (mkw p a b 0 0 0) = some z ∧ stpf (pN P h) (shf o (lc S X c p)) 0 (Uq h o x (mky k p a b)) h (mkw (o + p) a b 0 0 0) = some (Uq h o x z) ∧ AV (fl S X c) z := by
    have hV : CdV (lc S X c p) p := hV
    generalize lc S X c p = f at *
    generalize hu : Uq h o x (mky k p a b) = u at *
    obtain ⟨v1, v2, v3, v4, v5, v6⟩ := hV
    have hcv : ∀ d, cv (mky k p a b) d < 4 := fun d => cv_lt _ d
    have s0 : ∀ r, r ≠ 4 → shf o f r = f r := fun r hr => if_neg hr
    have s4 : shf o f 4 = o + f 4 := if_pos rfl
    have A0 : ∀ p' a' b', p' ≤ fl S X c → a' < 4 → b' < 4 → AV (fl S X c) (setH (mky k p a b) 0 (mkw p' a' b' 0 0 0)) := fun p' a' b' h1 h2 h3 => ⟨k, p', a', b', hk, h1, h2, h3, setH_mky hk hp32 ha4 hb4 (by omega) h2 h3⟩
    have A1 : ∀ d v p' a' b', d < 3 → v < 4 → p' ≤ fl S X c → a' < 4 → b' < 4 → AV (fl S X c) (setH (setV (mky k p a b) d v) 0 (mkw p' a' b' 0 0 0)) := by
      intro d v p' a' b' g1 g2 h1 h2 h3
      obtain ⟨k', hk', e⟩ := setV_mky (p := p) (a := a) (b := b) hk g1 g2
      rw [e]
      exact ⟨k', p', a', b', hk', h1, h2, h3, setH_mky hk' hp32 ha4 hb4 (by omega) h2 h3⟩
    have U0 : ∀ p' a' b', p' ≤ fl S X c → a' < 4 → b' < 4 → Uq h o x (setH (mky k p a b) 0 (mkw p' a' b' 0 0 0)) = setH u h (mkw (o + p') a' b' 0 0 0) := fun p' a' b' h1 h2 h3 => by rw [Uq_set0 hh hx hou (by omega) h2 h3, hu]
    have U1 : ∀ d v p' a' b', d < 3 → v < 4 → p' ≤ fl S X c → a' < 4 → b' < 4 → Uq h o x (setH (setV (mky k p a b) d v) 0 (mkw p' a' b' 0 0 0)) = setH (setV u d v) h (mkw (o + p') a' b' 0 0 0) := fun d v p' a' b' g1 g2 h1 h2 h3 => by rw [Uq_set hh hx hou g1 g2 (by omega) h2 h3, hu]
    clear hC hCp eS eQ e0 eU hou
    unfold stpf
    rw [s0 0 (by omega), s0 1 (by omega), s0 2 (by omega), s0 3 (by omega), s4]
    rw [pl_mkw hp32, ha_mkw hp32 ha4, hb_mkw hp32 ha4 hb4, hn_mkw hp32 ha4 hb4 (by omega), ho_mkw hp32 ha4 hb4 (by omega) (by omega), hl_mkw hp32 ha4 hb4 (by omega) (by omega) (by omega)]
    rw [pl_mkw ho32, ha_mkw ho32 ha4, hb_mkw ho32 ha4 hb4, hn_mkw ho32 ha4 hb4 (by omega), ho_mkw ho32 ha4 hb4 (by omega) (by omega), hl_mkw ho32 ha4 hb4 (by omega) (by omega) (by omega)]
    rw [if_neg (show ¬ fl S X c ≤ p by omega), if_neg (show ¬ pN P h ≤ o + p by omega)]
    have see0 : ∀ z w d, hn w = 0 → see w z d = cv z d := fun z w d hz => by unfold see; rw [wf_0 hz]; rfl
    rw [see0 _ _ _ (hn_mkw hp32 ha4 hb4 (by omega)), see0 _ _ _ (hn_mkw ho32 ha4 hb4 (by omega))]
    rw [show o + p + 1 = o + (p + 1) by omega]
    by_cases k1 : f 0 = 1
    · rw [if_pos k1, if_pos k1, cvU _ (v2 (by omega) (by omega))]
      exact ⟨_, rfl, by rw [U0 _ _ _ (by omega) (hcv _) hb4], A0 _ _ _ (by omega) (hcv _) hb4⟩
    · rw [if_neg k1, if_neg k1]
      by_cases k2 : f 0 = 2
      · have g1 := v2 (by omega) (by omega)
        have g2 := v3 k2
        have hu4 : (if f 2 = 4 then b else f 2) < 4 := by split <;> omega
        rw [if_pos k2, if_pos k2, if_pos rfl, if_pos rfl]
        exact ⟨_, rfl, by rw [U1 _ _ _ _ _ g1 hu4 (by omega) ha4 hb4], A1 _ _ _ _ _ g1 hu4 (by omega) ha4 hb4⟩
      · rw [if_neg k2, if_neg k2]
        by_cases k3 : f 0 = 3
        · have g1 := v2 (by omega) (by omega)
          have g3 := v5 k3
          rw [if_pos k3, if_pos k3, if_pos rfl, if_pos rfl, cvU _ g1]
          by_cases e : cv (mky k p a b) (f 1) = f 2
          · rw [if_pos e, if_pos e]
            exact ⟨_, rfl, by rw [U1 _ _ _ _ _ g1 g3 (by omega) (by omega) hb4], A1 _ _ _ _ _ g1 g3 (by omega) (by omega) hb4⟩
          · rw [if_neg e, if_neg e]
            exact ⟨_, rfl, by rw [U0 _ _ _ (by omega) (by omega) hb4], A0 _ _ _ (by omega) (by omega) hb4⟩
        · rw [if_neg k3, if_neg k3]
          by_cases k4 : f 0 = 4
          · have g1 := v2 (by omega) (by omega)
            have hm : (cv (mky k p a b) (f 1) + f 2) % 4 < 4 := Nat.mod_lt _ (by omega)
            rw [if_pos k4, if_pos k4, if_pos rfl, if_pos rfl, cvU _ g1]
            exact ⟨_, rfl, by rw [U1 _ _ _ _ _ g1 hm (by omega) (hcv _) hb4], A1 _ _ _ _ _ g1 hm (by omega) (hcv _) hb4⟩
          · rw [if_neg k4, if_neg k4]
            by_cases k5 : f 0 = 5
            · rw [if_pos k5, if_pos k5, if_pos rfl, if_pos rfl]
              exact ⟨_, rfl, by rw [U0 _ _ _ (by omega) ha4 hb4], A0 _ _ _ (by omega) ha4 hb4⟩
            · rw [if_neg k5, if_neg k5]
              by_cases k6 : f 0 = 6
              · have g6 := v6 k6
                rw [if_pos k6, if_pos k6]
                by_cases e : a = 0
                · rw [if_pos e, if_pos e]
                  exact ⟨_, rfl, by rw [U0 _ _ _ (by omega) ha4 hb4], A0 _ _ _ (by omega) ha4 hb4⟩
                · rw [if_neg e, if_neg e]
                  exact ⟨_, rfl, by rw [U0 _ _ _ (by omega) ha4 hb4], A0 _ _ _ (by omega) ha4 hb4⟩
              · rw [if_neg k6, if_neg k6]
                by_cases k7 : f 0 = 7
                · have g2 := v4 (by omega)
                  rw [if_pos k7, if_pos k7]
                  exact ⟨_, rfl, by rw [U0 _ _ _ (by omega) g2 hb4], A0 _ _ _ (by omega) g2 hb4⟩
                · rw [if_neg k7, if_neg k7]
                  exact ⟨_, rfl, by rw [U0 _ _ _ (by omega) ha4 ha4], A0 _ _ _ (by omega) ha4 ha4⟩
  obtain ⟨z, z1, z2, z3⟩ := key
  have eg : gQ S X c (mky k p a b) = z := by unfold gQ; rw [eQ, z1]; rfl
  rw [eg, eS, eQ]
  exact ⟨z2, z1, z3⟩
